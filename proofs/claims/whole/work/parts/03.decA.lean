theorem dX0_init_0 : decode cX0_init 0 = .ok (.aload_n 0, 1) := by decide +kernel
theorem dX0_init_1 : decode cX0_init 1 = .ok (.invokespecial 1, 3) := by decide +kernel
theorem dX0_init_4 : decode cX0_init 4 = .ok (.aload_n 0, 1) := by decide +kernel
theorem dX0_init_5 : decode cX0_init 5 = .ok (.iload_n 1, 1) := by decide +kernel
theorem dX0_init_6 : decode cX0_init 6 = .ok (.iconst 2, 1) := by decide +kernel
theorem dX0_init_7 : decode cX0_init 7 = .ok (.if_icmp .le 7, 3) := by decide +kernel
theorem dX0_init_10 : decode cX0_init 10 = .ok (.iload_n 1, 1) := by decide +kernel
theorem dX0_init_11 : decode cX0_init 11 = .ok (.goto 4, 3) := by decide +kernel
theorem dX0_init_14 : decode cX0_init 14 = .ok (.iconst 2, 1) := by decide +kernel
theorem dX0_init_15 : decode cX0_init 15 = .ok (.newarray .long, 2) := by decide +kernel
theorem dX0_init_17 : decode cX0_init 17 = .ok (.putfield 7, 3) := by decide +kernel
theorem dX0_init_20 : decode cX0_init 20 = .ok (.return_, 1) := by decide +kernel
theorem dX0_become_0 : decode cX0_become 0 = .ok (.aload_n 0, 1) := by decide +kernel
theorem dX0_become_1 : decode cX0_become 1 = .ok (.iconst 1, 1) := by decide +kernel
theorem dX0_become_2 : decode cX0_become 2 = .ok (.putfield 13, 3) := by decide +kernel
theorem dX0_become_5 : decode cX0_become 5 = .ok (.aload_n 0, 1) := by decide +kernel
theorem dX0_become_6 : decode cX0_become 6 = .ok (.getfield 7, 3) := by decide +kernel
theorem dX0_become_9 : decode cX0_become 9 = .ok (.iconst 0, 1) := by decide +kernel
theorem dX0_become_10 : decode cX0_become 10 = .ok (.iload_n 1, 1) := by decide +kernel
theorem dX0_become_11 : decode cX0_become 11 = .ok (.i2l, 1) := by decide +kernel
theorem dX0_become_12 : decode cX0_become 12 = .ok (.lastore, 1) := by decide +kernel
theorem dX0_become_13 : decode cX0_become 13 = .ok (.aload_n 0, 1) := by decide +kernel
theorem dX0_become_14 : decode cX0_become 14 = .ok (.invokevirtual 17, 3) := by decide +kernel
theorem dX0_become_17 : decode cX0_become 17 = .ok (.return_, 1) := by decide +kernel
theorem dX0_add_0 : decode cX0_add 0 = .ok (.aload_n 0, 1) := by decide +kernel
theorem dX0_add_1 : decode cX0_add 1 = .ok (.aload_n 1, 1) := by decide +kernel
theorem dX0_add_2 : decode cX0_add 2 = .ok (.getfield 13, 3) := by decide +kernel
theorem dX0_add_5 : decode cX0_add 5 = .ok (.invokevirtual 20, 3) := by decide +kernel
theorem dX0_add_8 : decode cX0_add 8 = .ok (.iconst 0, 1) := by decide +kernel
theorem dX0_add_9 : decode cX0_add 9 = .ok (.istore_n 2, 1) := by decide +kernel
theorem dX0_add_10 : decode cX0_add 10 = .ok (.iload_n 2, 1) := by decide +kernel
theorem dX0_add_11 : decode cX0_add 11 = .ok (.aload_n 1, 1) := by decide +kernel
theorem dX0_add_12 : decode cX0_add 12 = .ok (.getfield 13, 3) := by decide +kernel
theorem dX0_add_15 : decode cX0_add 15 = .ok (.if_icmp .ge 32, 3) := by decide +kernel
theorem dX0_add_18 : decode cX0_add 18 = .ok (.iload_n 2, 1) := by decide +kernel
theorem dX0_add_19 : decode cX0_add 19 = .ok (.aload_n 0, 1) := by decide +kernel
theorem dX0_add_20 : decode cX0_add 20 = .ok (.getfield 13, 3) := by decide +kernel
theorem dX0_add_23 : decode cX0_add 23 = .ok (.if_icmp .ge 24, 3) := by decide +kernel
theorem dX0_add_26 : decode cX0_add 26 = .ok (.aload_n 0, 1) := by decide +kernel
theorem dX0_add_27 : decode cX0_add 27 = .ok (.getfield 7, 3) := by decide +kernel
theorem dX0_add_30 : decode cX0_add 30 = .ok (.iload_n 2, 1) := by decide +kernel
theorem dX0_add_31 : decode cX0_add 31 = .ok (.dup2, 1) := by decide +kernel
theorem dX0_add_32 : decode cX0_add 32 = .ok (.laload, 1) := by decide +kernel
theorem dX0_add_33 : decode cX0_add 33 = .ok (.aload_n 1, 1) := by decide +kernel
theorem dX0_add_34 : decode cX0_add 34 = .ok (.getfield 7, 3) := by decide +kernel
theorem dX0_add_37 : decode cX0_add 37 = .ok (.iload_n 2, 1) := by decide +kernel
theorem dX0_add_38 : decode cX0_add 38 = .ok (.laload, 1) := by decide +kernel
theorem dX0_add_39 : decode cX0_add 39 = .ok (.ladd, 1) := by decide +kernel
theorem dX0_add_40 : decode cX0_add 40 = .ok (.lastore, 1) := by decide +kernel
theorem dX0_add_41 : decode cX0_add 41 = .ok (.iinc 2 1, 3) := by decide +kernel
theorem dX0_add_44 : decode cX0_add 44 = .ok (.goto (-34), 3) := by decide +kernel
theorem dX0_add_47 : decode cX0_add 47 = .ok (.aload_n 0, 1) := by decide +kernel
theorem dX0_add_48 : decode cX0_add 48 = .ok (.invokevirtual 17, 3) := by decide +kernel
theorem dX0_add_51 : decode cX0_add 51 = .ok (.return_, 1) := by decide +kernel
theorem dX0_times_0 : decode cX0_times 0 = .ok (.iconst 0, 1) := by decide +kernel
theorem dX0_times_1 : decode cX0_times 1 = .ok (.istore_n 3, 1) := by decide +kernel
theorem dX0_times_2 : decode cX0_times 2 = .ok (.iload_n 3, 1) := by decide +kernel
theorem dX0_times_3 : decode cX0_times 3 = .ok (.aload_n 0, 1) := by decide +kernel
theorem dX0_times_4 : decode cX0_times 4 = .ok (.getfield 13, 3) := by decide +kernel
theorem dX0_times_7 : decode cX0_times 7 = .ok (.if_icmp .ge 19, 3) := by decide +kernel
theorem dX0_times_10 : decode cX0_times 10 = .ok (.aload_n 0, 1) := by decide +kernel
theorem dX0_times_11 : decode cX0_times 11 = .ok (.getfield 7, 3) := by decide +kernel
theorem dX0_times_14 : decode cX0_times 14 = .ok (.iload_n 3, 1) := by decide +kernel
theorem dX0_times_15 : decode cX0_times 15 = .ok (.dup2, 1) := by decide +kernel
theorem dX0_times_16 : decode cX0_times 16 = .ok (.laload, 1) := by decide +kernel
theorem dX0_times_17 : decode cX0_times 17 = .ok (.lload_n 1, 1) := by decide +kernel
theorem dX0_times_18 : decode cX0_times 18 = .ok (.lmul, 1) := by decide +kernel
theorem dX0_times_19 : decode cX0_times 19 = .ok (.lastore, 1) := by decide +kernel
theorem dX0_times_20 : decode cX0_times 20 = .ok (.iinc 3 1, 3) := by decide +kernel
theorem dX0_times_23 : decode cX0_times 23 = .ok (.goto (-21), 3) := by decide +kernel
theorem dX0_times_26 : decode cX0_times 26 = .ok (.aload_n 0, 1) := by decide +kernel
theorem dX0_times_27 : decode cX0_times 27 = .ok (.invokevirtual 17, 3) := by decide +kernel
theorem dX0_times_30 : decode cX0_times 30 = .ok (.return_, 1) := by decide +kernel
theorem dX0_addProduct_0 : decode cX0_addProduct 0 = .ok (.aload_n 0, 1) := by decide +kernel
theorem dX0_addProduct_1 : decode cX0_addProduct 1 = .ok (.aload_n 1, 1) := by decide +kernel
theorem dX0_addProduct_2 : decode cX0_addProduct 2 = .ok (.getfield 13, 3) := by decide +kernel
theorem dX0_addProduct_5 : decode cX0_addProduct 5 = .ok (.aload_n 2, 1) := by decide +kernel
theorem dX0_addProduct_6 : decode cX0_addProduct 6 = .ok (.getfield 13, 3) := by decide +kernel
theorem dX0_addProduct_9 : decode cX0_addProduct 9 = .ok (.iadd, 1) := by decide +kernel
theorem dX0_addProduct_10 : decode cX0_addProduct 10 = .ok (.invokevirtual 20, 3) := by decide +kernel
theorem dX0_addProduct_13 : decode cX0_addProduct 13 = .ok (.iconst 0, 1) := by decide +kernel
theorem dX0_addProduct_14 : decode cX0_addProduct 14 = .ok (.istore_n 3, 1) := by decide +kernel
theorem dX0_addProduct_15 : decode cX0_addProduct 15 = .ok (.iload_n 3, 1) := by decide +kernel
theorem dX0_addProduct_16 : decode cX0_addProduct 16 = .ok (.aload_n 1, 1) := by decide +kernel
theorem dX0_addProduct_17 : decode cX0_addProduct 17 = .ok (.getfield 13, 3) := by decide +kernel
theorem dX0_addProduct_20 : decode cX0_addProduct 20 = .ok (.if_icmp .ge 64, 3) := by decide +kernel
theorem dX0_addProduct_23 : decode cX0_addProduct 23 = .ok (.iconst 0, 1) := by decide +kernel
theorem dX0_addProduct_24 : decode cX0_addProduct 24 = .ok (.istore 4, 2) := by decide +kernel
theorem dX0_addProduct_26 : decode cX0_addProduct 26 = .ok (.iload 4, 2) := by decide +kernel
theorem dX0_addProduct_28 : decode cX0_addProduct 28 = .ok (.aload_n 2, 1) := by decide +kernel
theorem dX0_addProduct_29 : decode cX0_addProduct 29 = .ok (.getfield 13, 3) := by decide +kernel
theorem dX0_addProduct_32 : decode cX0_addProduct 32 = .ok (.if_icmp .ge 46, 3) := by decide +kernel
theorem dX0_addProduct_35 : decode cX0_addProduct 35 = .ok (.iload_n 3, 1) := by decide +kernel
theorem dX0_addProduct_36 : decode cX0_addProduct 36 = .ok (.iload 4, 2) := by decide +kernel
theorem dX0_addProduct_38 : decode cX0_addProduct 38 = .ok (.iadd, 1) := by decide +kernel
theorem dX0_addProduct_39 : decode cX0_addProduct 39 = .ok (.aload_n 0, 1) := by decide +kernel
theorem dX0_addProduct_40 : decode cX0_addProduct 40 = .ok (.getfield 13, 3) := by decide +kernel
theorem dX0_addProduct_43 : decode cX0_addProduct 43 = .ok (.if_icmp .ge 35, 3) := by decide +kernel
theorem dX0_addProduct_46 : decode cX0_addProduct 46 = .ok (.aload_n 0, 1) := by decide +kernel
theorem dX0_addProduct_47 : decode cX0_addProduct 47 = .ok (.getfield 7, 3) := by decide +kernel
theorem dX0_addProduct_50 : decode cX0_addProduct 50 = .ok (.iload_n 3, 1) := by decide +kernel
theorem dX0_addProduct_51 : decode cX0_addProduct 51 = .ok (.iload 4, 2) := by decide +kernel
theorem dX0_addProduct_53 : decode cX0_addProduct 53 = .ok (.iadd, 1) := by decide +kernel
theorem dX0_addProduct_54 : decode cX0_addProduct 54 = .ok (.dup2, 1) := by decide +kernel
theorem dX0_addProduct_55 : decode cX0_addProduct 55 = .ok (.laload, 1) := by decide +kernel
theorem dX0_addProduct_56 : decode cX0_addProduct 56 = .ok (.aload_n 1, 1) := by decide +kernel
theorem dX0_addProduct_57 : decode cX0_addProduct 57 = .ok (.getfield 7, 3) := by decide +kernel
theorem dX0_addProduct_60 : decode cX0_addProduct 60 = .ok (.iload_n 3, 1) := by decide +kernel
theorem dX0_addProduct_61 : decode cX0_addProduct 61 = .ok (.laload, 1) := by decide +kernel
theorem dX0_addProduct_62 : decode cX0_addProduct 62 = .ok (.aload_n 2, 1) := by decide +kernel
theorem dX0_addProduct_63 : decode cX0_addProduct 63 = .ok (.getfield 7, 3) := by decide +kernel
theorem dX0_addProduct_66 : decode cX0_addProduct 66 = .ok (.iload 4, 2) := by decide +kernel
theorem dX0_addProduct_68 : decode cX0_addProduct 68 = .ok (.laload, 1) := by decide +kernel
theorem dX0_addProduct_69 : decode cX0_addProduct 69 = .ok (.lmul, 1) := by decide +kernel
theorem dX0_addProduct_70 : decode cX0_addProduct 70 = .ok (.ladd, 1) := by decide +kernel
theorem dX0_addProduct_71 : decode cX0_addProduct 71 = .ok (.lastore, 1) := by decide +kernel
theorem dX0_addProduct_72 : decode cX0_addProduct 72 = .ok (.iinc 4 1, 3) := by decide +kernel
theorem dX0_addProduct_75 : decode cX0_addProduct 75 = .ok (.goto (-49), 3) := by decide +kernel
theorem dX0_addProduct_78 : decode cX0_addProduct 78 = .ok (.iinc 3 1, 3) := by decide +kernel
theorem dX0_addProduct_81 : decode cX0_addProduct 81 = .ok (.goto (-66), 3) := by decide +kernel
theorem dX0_addProduct_84 : decode cX0_addProduct 84 = .ok (.aload_n 0, 1) := by decide +kernel
theorem dX0_addProduct_85 : decode cX0_addProduct 85 = .ok (.invokevirtual 17, 3) := by decide +kernel
theorem dX0_addProduct_88 : decode cX0_addProduct 88 = .ok (.return_, 1) := by decide +kernel
theorem dX0_stretch_0 : decode cX0_stretch 0 = .ok (.aload_n 0, 1) := by decide +kernel
theorem dX0_stretch_1 : decode cX0_stretch 1 = .ok (.getfield 13, 3) := by decide +kernel
theorem dX0_stretch_4 : decode cX0_stretch 4 = .ok (.istore_n 2, 1) := by decide +kernel
theorem dX0_stretch_5 : decode cX0_stretch 5 = .ok (.iload_n 2, 1) := by decide +kernel
theorem dX0_stretch_6 : decode cX0_stretch 6 = .ok (.iload_n 1, 1) := by decide +kernel
theorem dX0_stretch_7 : decode cX0_stretch 7 = .ok (.if_icmp .ge 32, 3) := by decide +kernel
theorem dX0_stretch_10 : decode cX0_stretch 10 = .ok (.iload_n 2, 1) := by decide +kernel
theorem dX0_stretch_11 : decode cX0_stretch 11 = .ok (.aload_n 0, 1) := by decide +kernel
theorem dX0_stretch_12 : decode cX0_stretch 12 = .ok (.getfield 7, 3) := by decide +kernel
theorem dX0_stretch_15 : decode cX0_stretch 15 = .ok (.arraylength, 1) := by decide +kernel
theorem dX0_stretch_16 : decode cX0_stretch 16 = .ok (.if_icmp .ge 23, 3) := by decide +kernel
theorem dX0_stretch_19 : decode cX0_stretch 19 = .ok (.aload_n 0, 1) := by decide +kernel
theorem dX0_stretch_20 : decode cX0_stretch 20 = .ok (.getfield 7, 3) := by decide +kernel
theorem dX0_stretch_23 : decode cX0_stretch 23 = .ok (.iload_n 2, 1) := by decide +kernel
theorem dX0_stretch_24 : decode cX0_stretch 24 = .ok (.lconst 0, 1) := by decide +kernel
theorem dX0_stretch_25 : decode cX0_stretch 25 = .ok (.lastore, 1) := by decide +kernel
theorem dX0_stretch_26 : decode cX0_stretch 26 = .ok (.aload_n 0, 1) := by decide +kernel
theorem dX0_stretch_27 : decode cX0_stretch 27 = .ok (.iload_n 2, 1) := by decide +kernel
theorem dX0_stretch_28 : decode cX0_stretch 28 = .ok (.iconst 1, 1) := by decide +kernel
theorem dX0_stretch_29 : decode cX0_stretch 29 = .ok (.iadd, 1) := by decide +kernel
theorem dX0_stretch_30 : decode cX0_stretch 30 = .ok (.putfield 13, 3) := by decide +kernel
theorem dX0_stretch_33 : decode cX0_stretch 33 = .ok (.iinc 2 1, 3) := by decide +kernel
theorem dX0_stretch_36 : decode cX0_stretch 36 = .ok (.goto (-31), 3) := by decide +kernel
theorem dX0_stretch_39 : decode cX0_stretch 39 = .ok (.return_, 1) := by decide +kernel
theorem dX0_carry_0 : decode cX0_carry 0 = .ok (.aload_n 0, 1) := by decide +kernel
theorem dX0_carry_1 : decode cX0_carry 1 = .ok (.aload_n 0, 1) := by decide +kernel
theorem dX0_carry_2 : decode cX0_carry 2 = .ok (.getfield 13, 3) := by decide +kernel
theorem dX0_carry_5 : decode cX0_carry 5 = .ok (.iconst 2, 1) := by decide +kernel
theorem dX0_carry_6 : decode cX0_carry 6 = .ok (.iadd, 1) := by decide +kernel
theorem dX0_carry_7 : decode cX0_carry 7 = .ok (.invokevirtual 20, 3) := by decide +kernel
theorem dX0_carry_10 : decode cX0_carry 10 = .ok (.lconst 0, 1) := by decide +kernel
theorem dX0_carry_11 : decode cX0_carry 11 = .ok (.lstore_n 1, 1) := by decide +kernel
theorem dX0_carry_12 : decode cX0_carry 12 = .ok (.iconst 0, 1) := by decide +kernel
theorem dX0_carry_13 : decode cX0_carry 13 = .ok (.istore_n 3, 1) := by decide +kernel
theorem dX0_carry_14 : decode cX0_carry 14 = .ok (.iload_n 3, 1) := by decide +kernel
theorem dX0_carry_15 : decode cX0_carry 15 = .ok (.aload_n 0, 1) := by decide +kernel
theorem dX0_carry_16 : decode cX0_carry 16 = .ok (.getfield 13, 3) := by decide +kernel
theorem dX0_carry_19 : decode cX0_carry 19 = .ok (.if_icmp .ge 35, 3) := by decide +kernel
theorem dX0_carry_22 : decode cX0_carry 22 = .ok (.lload_n 1, 1) := by decide +kernel
theorem dX0_carry_23 : decode cX0_carry 23 = .ok (.aload_n 0, 1) := by decide +kernel
theorem dX0_carry_24 : decode cX0_carry 24 = .ok (.getfield 7, 3) := by decide +kernel
theorem dX0_carry_27 : decode cX0_carry 27 = .ok (.iload_n 3, 1) := by decide +kernel
theorem dX0_carry_28 : decode cX0_carry 28 = .ok (.laload, 1) := by decide +kernel
theorem dX0_carry_29 : decode cX0_carry 29 = .ok (.ladd, 1) := by decide +kernel
theorem dX0_carry_30 : decode cX0_carry 30 = .ok (.lstore_n 1, 1) := by decide +kernel
theorem dX0_carry_31 : decode cX0_carry 31 = .ok (.aload_n 0, 1) := by decide +kernel
theorem dX0_carry_32 : decode cX0_carry 32 = .ok (.getfield 7, 3) := by decide +kernel
theorem dX0_carry_35 : decode cX0_carry 35 = .ok (.iload_n 3, 1) := by decide +kernel
theorem dX0_carry_36 : decode cX0_carry 36 = .ok (.lload_n 1, 1) := by decide +kernel
theorem dX0_carry_37 : decode cX0_carry 37 = .ok (.ldc2_w 24, 3) := by decide +kernel
theorem dX0_carry_40 : decode cX0_carry 40 = .ok (.lrem, 1) := by decide +kernel
theorem dX0_carry_41 : decode cX0_carry 41 = .ok (.lastore, 1) := by decide +kernel
theorem dX0_carry_42 : decode cX0_carry 42 = .ok (.lload_n 1, 1) := by decide +kernel
theorem dX0_carry_43 : decode cX0_carry 43 = .ok (.ldc2_w 24, 3) := by decide +kernel
theorem dX0_carry_46 : decode cX0_carry 46 = .ok (.ldiv, 1) := by decide +kernel
theorem dX0_carry_47 : decode cX0_carry 47 = .ok (.lstore_n 1, 1) := by decide +kernel
theorem dX0_carry_48 : decode cX0_carry 48 = .ok (.iinc 3 1, 3) := by decide +kernel
theorem dX0_carry_51 : decode cX0_carry 51 = .ok (.goto (-37), 3) := by decide +kernel
theorem dX0_carry_54 : decode cX0_carry 54 = .ok (.aload_n 0, 1) := by decide +kernel
theorem dX0_carry_55 : decode cX0_carry 55 = .ok (.getfield 13, 3) := by decide +kernel
theorem dX0_carry_58 : decode cX0_carry 58 = .ok (.ifCond .le 32, 3) := by decide +kernel
theorem dX0_carry_61 : decode cX0_carry 61 = .ok (.aload_n 0, 1) := by decide +kernel
theorem dX0_carry_62 : decode cX0_carry 62 = .ok (.getfield 7, 3) := by decide +kernel
theorem dX0_carry_65 : decode cX0_carry 65 = .ok (.aload_n 0, 1) := by decide +kernel
theorem dX0_carry_66 : decode cX0_carry 66 = .ok (.getfield 13, 3) := by decide +kernel
theorem dX0_carry_69 : decode cX0_carry 69 = .ok (.iconst 1, 1) := by decide +kernel
theorem dX0_carry_70 : decode cX0_carry 70 = .ok (.isub, 1) := by decide +kernel
theorem dX0_carry_71 : decode cX0_carry 71 = .ok (.laload, 1) := by decide +kernel
theorem dX0_carry_72 : decode cX0_carry 72 = .ok (.lconst 0, 1) := by decide +kernel
theorem dX0_carry_73 : decode cX0_carry 73 = .ok (.lcmp, 1) := by decide +kernel
theorem dX0_carry_74 : decode cX0_carry 74 = .ok (.ifCond .ne 16, 3) := by decide +kernel
theorem dX0_carry_77 : decode cX0_carry 77 = .ok (.aload_n 0, 1) := by decide +kernel
theorem dX0_carry_78 : decode cX0_carry 78 = .ok (.dup, 1) := by decide +kernel
theorem dX0_carry_79 : decode cX0_carry 79 = .ok (.getfield 13, 3) := by decide +kernel
theorem dX0_carry_82 : decode cX0_carry 82 = .ok (.iconst 1, 1) := by decide +kernel
theorem dX0_carry_83 : decode cX0_carry 83 = .ok (.isub, 1) := by decide +kernel
theorem dX0_carry_84 : decode cX0_carry 84 = .ok (.putfield 13, 3) := by decide +kernel
theorem dX0_carry_87 : decode cX0_carry 87 = .ok (.goto (-33), 3) := by decide +kernel
theorem dX0_carry_90 : decode cX0_carry 90 = .ok (.return_, 1) := by decide +kernel
theorem dX0_limb_0 : decode cX0_limb 0 = .ok (.iload_n 1, 1) := by decide +kernel
theorem dX0_limb_1 : decode cX0_limb 1 = .ok (.ifCond .lt 20, 3) := by decide +kernel
theorem dX0_limb_4 : decode cX0_limb 4 = .ok (.iload_n 1, 1) := by decide +kernel
theorem dX0_limb_5 : decode cX0_limb 5 = .ok (.aload_n 0, 1) := by decide +kernel
theorem dX0_limb_6 : decode cX0_limb 6 = .ok (.getfield 13, 3) := by decide +kernel
theorem dX0_limb_9 : decode cX0_limb 9 = .ok (.if_icmp .ge 12, 3) := by decide +kernel
theorem dX0_limb_12 : decode cX0_limb 12 = .ok (.aload_n 0, 1) := by decide +kernel
theorem dX0_limb_13 : decode cX0_limb 13 = .ok (.getfield 7, 3) := by decide +kernel
theorem dX0_limb_16 : decode cX0_limb 16 = .ok (.iload_n 1, 1) := by decide +kernel
theorem dX0_limb_17 : decode cX0_limb 17 = .ok (.laload, 1) := by decide +kernel
theorem dX0_limb_18 : decode cX0_limb 18 = .ok (.goto 4, 3) := by decide +kernel
theorem dX0_limb_21 : decode cX0_limb 21 = .ok (.lconst 0, 1) := by decide +kernel
theorem dX0_limb_22 : decode cX0_limb 22 = .ok (.lreturn, 1) := by decide +kernel
theorem dX0_isMoreThan_0 : decode cX0_isMoreThan 0 = .ok (.aload_n 0, 1) := by decide +kernel
theorem dX0_isMoreThan_1 : decode cX0_isMoreThan 1 = .ok (.getfield 13, 3) := by decide +kernel
theorem dX0_isMoreThan_4 : decode cX0_isMoreThan 4 = .ok (.aload_n 1, 1) := by decide +kernel
theorem dX0_isMoreThan_5 : decode cX0_isMoreThan 5 = .ok (.getfield 13, 3) := by decide +kernel
theorem dX0_isMoreThan_8 : decode cX0_isMoreThan 8 = .ok (.if_icmp .eq 20, 3) := by decide +kernel
theorem dX0_isMoreThan_11 : decode cX0_isMoreThan 11 = .ok (.aload_n 0, 1) := by decide +kernel
theorem dX0_isMoreThan_12 : decode cX0_isMoreThan 12 = .ok (.getfield 13, 3) := by decide +kernel
theorem dX0_isMoreThan_15 : decode cX0_isMoreThan 15 = .ok (.aload_n 1, 1) := by decide +kernel
theorem dX0_isMoreThan_16 : decode cX0_isMoreThan 16 = .ok (.getfield 13, 3) := by decide +kernel
theorem dX0_isMoreThan_19 : decode cX0_isMoreThan 19 = .ok (.if_icmp .le 7, 3) := by decide +kernel
theorem dX0_isMoreThan_22 : decode cX0_isMoreThan 22 = .ok (.iconst 1, 1) := by decide +kernel
theorem dX0_isMoreThan_23 : decode cX0_isMoreThan 23 = .ok (.goto 4, 3) := by decide +kernel
theorem dX0_isMoreThan_26 : decode cX0_isMoreThan 26 = .ok (.iconst 0, 1) := by decide +kernel
theorem dX0_isMoreThan_27 : decode cX0_isMoreThan 27 = .ok (.ireturn, 1) := by decide +kernel
theorem dX0_isMoreThan_28 : decode cX0_isMoreThan 28 = .ok (.aload_n 0, 1) := by decide +kernel
theorem dX0_isMoreThan_29 : decode cX0_isMoreThan 29 = .ok (.getfield 13, 3) := by decide +kernel
theorem dX0_isMoreThan_32 : decode cX0_isMoreThan 32 = .ok (.iconst 1, 1) := by decide +kernel
theorem dX0_isMoreThan_33 : decode cX0_isMoreThan 33 = .ok (.isub, 1) := by decide +kernel
theorem dX0_isMoreThan_34 : decode cX0_isMoreThan 34 = .ok (.istore_n 2, 1) := by decide +kernel
theorem dX0_isMoreThan_35 : decode cX0_isMoreThan 35 = .ok (.iload_n 2, 1) := by decide +kernel
theorem dX0_isMoreThan_36 : decode cX0_isMoreThan 36 = .ok (.ifCond .lt 47, 3) := by decide +kernel
theorem dX0_isMoreThan_39 : decode cX0_isMoreThan 39 = .ok (.aload_n 0, 1) := by decide +kernel
theorem dX0_isMoreThan_40 : decode cX0_isMoreThan 40 = .ok (.getfield 7, 3) := by decide +kernel
theorem dX0_isMoreThan_43 : decode cX0_isMoreThan 43 = .ok (.iload_n 2, 1) := by decide +kernel
theorem dX0_isMoreThan_44 : decode cX0_isMoreThan 44 = .ok (.laload, 1) := by decide +kernel
theorem dX0_isMoreThan_45 : decode cX0_isMoreThan 45 = .ok (.aload_n 1, 1) := by decide +kernel
theorem dX0_isMoreThan_46 : decode cX0_isMoreThan 46 = .ok (.getfield 7, 3) := by decide +kernel
theorem dX0_isMoreThan_49 : decode cX0_isMoreThan 49 = .ok (.iload_n 2, 1) := by decide +kernel
theorem dX0_isMoreThan_50 : decode cX0_isMoreThan 50 = .ok (.laload, 1) := by decide +kernel
theorem dX0_isMoreThan_51 : decode cX0_isMoreThan 51 = .ok (.lcmp, 1) := by decide +kernel
theorem dX0_isMoreThan_52 : decode cX0_isMoreThan 52 = .ok (.ifCond .eq 25, 3) := by decide +kernel
theorem dX0_isMoreThan_55 : decode cX0_isMoreThan 55 = .ok (.aload_n 0, 1) := by decide +kernel
theorem dX0_isMoreThan_56 : decode cX0_isMoreThan 56 = .ok (.getfield 7, 3) := by decide +kernel
theorem dX0_isMoreThan_59 : decode cX0_isMoreThan 59 = .ok (.iload_n 2, 1) := by decide +kernel
theorem dX0_isMoreThan_60 : decode cX0_isMoreThan 60 = .ok (.laload, 1) := by decide +kernel
theorem dX0_isMoreThan_61 : decode cX0_isMoreThan 61 = .ok (.aload_n 1, 1) := by decide +kernel
theorem dX0_isMoreThan_62 : decode cX0_isMoreThan 62 = .ok (.getfield 7, 3) := by decide +kernel
theorem dX0_isMoreThan_65 : decode cX0_isMoreThan 65 = .ok (.iload_n 2, 1) := by decide +kernel
theorem dX0_isMoreThan_66 : decode cX0_isMoreThan 66 = .ok (.laload, 1) := by decide +kernel
theorem dX0_isMoreThan_67 : decode cX0_isMoreThan 67 = .ok (.lcmp, 1) := by decide +kernel
theorem dX0_isMoreThan_68 : decode cX0_isMoreThan 68 = .ok (.ifCond .le 7, 3) := by decide +kernel
theorem dX0_isMoreThan_71 : decode cX0_isMoreThan 71 = .ok (.iconst 1, 1) := by decide +kernel
theorem dX0_isMoreThan_72 : decode cX0_isMoreThan 72 = .ok (.goto 4, 3) := by decide +kernel
theorem dX0_isMoreThan_75 : decode cX0_isMoreThan 75 = .ok (.iconst 0, 1) := by decide +kernel
theorem dX0_isMoreThan_76 : decode cX0_isMoreThan 76 = .ok (.ireturn, 1) := by decide +kernel
theorem dX0_isMoreThan_77 : decode cX0_isMoreThan 77 = .ok (.iinc 2 (-1), 3) := by decide +kernel
theorem dX0_isMoreThan_80 : decode cX0_isMoreThan 80 = .ok (.goto (-45), 3) := by decide +kernel
theorem dX0_isMoreThan_83 : decode cX0_isMoreThan 83 = .ok (.iconst 0, 1) := by decide +kernel
theorem dX0_isMoreThan_84 : decode cX0_isMoreThan 84 = .ok (.ireturn, 1) := by decide +kernel
theorem dX0_cutBy_0 : decode cX0_cutBy 0 = .ok (.iload_n 1, 1) := by decide +kernel
theorem dX0_cutBy_1 : decode cX0_cutBy 1 = .ok (.iconst 2, 1) := by decide +kernel
theorem dX0_cutBy_2 : decode cX0_cutBy 2 = .ok (.idiv, 1) := by decide +kernel
theorem dX0_cutBy_3 : decode cX0_cutBy 3 = .ok (.istore_n 2, 1) := by decide +kernel
theorem dX0_cutBy_4 : decode cX0_cutBy 4 = .ok (.aload_n 0, 1) := by decide +kernel
theorem dX0_cutBy_5 : decode cX0_cutBy 5 = .ok (.iload_n 2, 1) := by decide +kernel
theorem dX0_cutBy_6 : decode cX0_cutBy 6 = .ok (.iconst 1, 1) := by decide +kernel
theorem dX0_cutBy_7 : decode cX0_cutBy 7 = .ok (.iadd, 1) := by decide +kernel
theorem dX0_cutBy_8 : decode cX0_cutBy 8 = .ok (.invokevirtual 26, 3) := by decide +kernel
theorem dX0_cutBy_11 : decode cX0_cutBy 11 = .ok (.ldc2_w 24, 3) := by decide +kernel
theorem dX0_cutBy_14 : decode cX0_cutBy 14 = .ok (.lmul, 1) := by decide +kernel
theorem dX0_cutBy_15 : decode cX0_cutBy 15 = .ok (.aload_n 0, 1) := by decide +kernel
theorem dX0_cutBy_16 : decode cX0_cutBy 16 = .ok (.iload_n 2, 1) := by decide +kernel
theorem dX0_cutBy_17 : decode cX0_cutBy 17 = .ok (.invokevirtual 26, 3) := by decide +kernel
theorem dX0_cutBy_20 : decode cX0_cutBy 20 = .ok (.ladd, 1) := by decide +kernel
theorem dX0_cutBy_21 : decode cX0_cutBy 21 = .ok (.lstore_n 3, 1) := by decide +kernel
theorem dX0_cutBy_22 : decode cX0_cutBy 22 = .ok (.iload_n 1, 1) := by decide +kernel
theorem dX0_cutBy_23 : decode cX0_cutBy 23 = .ok (.iconst 2, 1) := by decide +kernel
theorem dX0_cutBy_24 : decode cX0_cutBy 24 = .ok (.irem, 1) := by decide +kernel
theorem dX0_cutBy_25 : decode cX0_cutBy 25 = .ok (.ifCond .ne 7, 3) := by decide +kernel
theorem dX0_cutBy_28 : decode cX0_cutBy 28 = .ok (.lload_n 3, 1) := by decide +kernel
theorem dX0_cutBy_29 : decode cX0_cutBy 29 = .ok (.goto 8, 3) := by decide +kernel
theorem dX0_cutBy_32 : decode cX0_cutBy 32 = .ok (.lload_n 3, 1) := by decide +kernel
theorem dX0_cutBy_33 : decode cX0_cutBy 33 = .ok (.ldc2_w 30, 3) := by decide +kernel
theorem dX0_cutBy_36 : decode cX0_cutBy 36 = .ok (.ldiv, 1) := by decide +kernel
theorem dX0_cutBy_37 : decode cX0_cutBy 37 = .ok (.lreturn, 1) := by decide +kernel
theorem dX1_init_0 : decode cX1_init 0 = .ok (.aload_n 0, 1) := by decide +kernel
theorem dX1_init_1 : decode cX1_init 1 = .ok (.invokespecial 3, 3) := by decide +kernel
theorem dX1_init_4 : decode cX1_init 4 = .ok (.aload_n 0, 1) := by decide +kernel
theorem dX1_init_5 : decode cX1_init 5 = .ok (.bipush 17, 2) := by decide +kernel
theorem dX1_init_7 : decode cX1_init 7 = .ok (.anewarray 11, 3) := by decide +kernel
theorem dX1_init_10 : decode cX1_init 10 = .ok (.putfield 13, 3) := by decide +kernel
theorem dX1_init_13 : decode cX1_init 13 = .ok (.aload_n 0, 1) := by decide +kernel
theorem dX1_init_14 : decode cX1_init 14 = .ok (.bipush 17, 2) := by decide +kernel
theorem dX1_init_16 : decode cX1_init 16 = .ok (.anewarray 11, 3) := by decide +kernel
theorem dX1_init_19 : decode cX1_init 19 = .ok (.putfield 17, 3) := by decide +kernel
theorem dX1_init_22 : decode cX1_init 22 = .ok (.aload_n 0, 1) := by decide +kernel
theorem dX1_init_23 : decode cX1_init 23 = .ok (.bipush 17, 2) := by decide +kernel
theorem dX1_init_25 : decode cX1_init 25 = .ok (.anewarray 11, 3) := by decide +kernel
theorem dX1_init_28 : decode cX1_init 28 = .ok (.putfield 20, 3) := by decide +kernel
theorem dX1_init_31 : decode cX1_init 31 = .ok (.aload_n 0, 1) := by decide +kernel
theorem dX1_init_32 : decode cX1_init 32 = .ok (.new 11, 3) := by decide +kernel
theorem dX1_init_35 : decode cX1_init 35 = .ok (.dup, 1) := by decide +kernel
theorem dX1_init_36 : decode cX1_init 36 = .ok (.bipush 12, 2) := by decide +kernel
theorem dX1_init_38 : decode cX1_init 38 = .ok (.invokespecial 23, 3) := by decide +kernel
theorem dX1_init_41 : decode cX1_init 41 = .ok (.putfield 26, 3) := by decide +kernel
theorem dX1_init_44 : decode cX1_init 44 = .ok (.aload_n 0, 1) := by decide +kernel
theorem dX1_init_45 : decode cX1_init 45 = .ok (.aload_n 1, 1) := by decide +kernel
theorem dX1_init_46 : decode cX1_init 46 = .ok (.putfield 30, 3) := by decide +kernel
theorem dX1_init_49 : decode cX1_init 49 = .ok (.iconst 0, 1) := by decide +kernel
theorem dX1_init_50 : decode cX1_init 50 = .ok (.istore_n 2, 1) := by decide +kernel
theorem dX1_init_51 : decode cX1_init 51 = .ok (.iload_n 2, 1) := by decide +kernel
theorem dX1_init_52 : decode cX1_init 52 = .ok (.bipush 16, 2) := by decide +kernel
theorem dX1_init_54 : decode cX1_init 54 = .ok (.if_icmp .gt 54, 3) := by decide +kernel
theorem dX1_init_57 : decode cX1_init 57 = .ok (.aload_n 0, 1) := by decide +kernel
theorem dX1_init_58 : decode cX1_init 58 = .ok (.getfield 13, 3) := by decide +kernel
theorem dX1_init_61 : decode cX1_init 61 = .ok (.iload_n 2, 1) := by decide +kernel
theorem dX1_init_62 : decode cX1_init 62 = .ok (.new 11, 3) := by decide +kernel
theorem dX1_init_65 : decode cX1_init 65 = .ok (.dup, 1) := by decide +kernel
theorem dX1_init_66 : decode cX1_init 66 = .ok (.bipush 6, 2) := by decide +kernel
theorem dX1_init_68 : decode cX1_init 68 = .ok (.invokespecial 23, 3) := by decide +kernel
theorem dX1_init_71 : decode cX1_init 71 = .ok (.aastore, 1) := by decide +kernel
theorem dX1_init_72 : decode cX1_init 72 = .ok (.aload_n 0, 1) := by decide +kernel
theorem dX1_init_73 : decode cX1_init 73 = .ok (.getfield 17, 3) := by decide +kernel
theorem dX1_init_76 : decode cX1_init 76 = .ok (.iload_n 2, 1) := by decide +kernel
theorem dX1_init_77 : decode cX1_init 77 = .ok (.new 11, 3) := by decide +kernel
theorem dX1_init_80 : decode cX1_init 80 = .ok (.dup, 1) := by decide +kernel
theorem dX1_init_81 : decode cX1_init 81 = .ok (.bipush 6, 2) := by decide +kernel
theorem dX1_init_83 : decode cX1_init 83 = .ok (.invokespecial 23, 3) := by decide +kernel
theorem dX1_init_86 : decode cX1_init 86 = .ok (.aastore, 1) := by decide +kernel
theorem dX1_init_87 : decode cX1_init 87 = .ok (.aload_n 0, 1) := by decide +kernel
theorem dX1_init_88 : decode cX1_init 88 = .ok (.getfield 20, 3) := by decide +kernel
theorem dX1_init_91 : decode cX1_init 91 = .ok (.iload_n 2, 1) := by decide +kernel
theorem dX1_init_92 : decode cX1_init 92 = .ok (.new 11, 3) := by decide +kernel
theorem dX1_init_95 : decode cX1_init 95 = .ok (.dup, 1) := by decide +kernel
theorem dX1_init_96 : decode cX1_init 96 = .ok (.bipush 6, 2) := by decide +kernel
theorem dX1_init_98 : decode cX1_init 98 = .ok (.invokespecial 23, 3) := by decide +kernel
theorem dX1_init_101 : decode cX1_init 101 = .ok (.aastore, 1) := by decide +kernel
theorem dX1_init_102 : decode cX1_init 102 = .ok (.iinc 2 1, 3) := by decide +kernel
theorem dX1_init_105 : decode cX1_init 105 = .ok (.goto (-54), 3) := by decide +kernel
theorem dX1_init_108 : decode cX1_init 108 = .ok (.return_, 1) := by decide +kernel
theorem dX1_chanceOf_0 : decode cX1_chanceOf 0 = .ok (.iload_n 1, 1) := by decide +kernel
theorem dX1_chanceOf_1 : decode cX1_chanceOf 1 = .ok (.iconst 1, 1) := by decide +kernel
theorem dX1_chanceOf_2 : decode cX1_chanceOf 2 = .ok (.bipush 16, 2) := by decide +kernel
theorem dX1_chanceOf_4 : decode cX1_chanceOf 4 = .ok (.invokestatic 34, 3) := by decide +kernel
theorem dX1_chanceOf_7 : decode cX1_chanceOf 7 = .ok (.ifCond .eq 18, 3) := by decide +kernel
theorem dX1_chanceOf_10 : decode cX1_chanceOf 10 = .ok (.iload 4, 2) := by decide +kernel
theorem dX1_chanceOf_12 : decode cX1_chanceOf 12 = .ok (.iconst 1, 1) := by decide +kernel
theorem dX1_chanceOf_13 : decode cX1_chanceOf 13 = .ok (.bipush 16, 2) := by decide +kernel
theorem dX1_chanceOf_15 : decode cX1_chanceOf 15 = .ok (.invokestatic 34, 3) := by decide +kernel
theorem dX1_chanceOf_18 : decode cX1_chanceOf 18 = .ok (.ifCond .eq 7, 3) := by decide +kernel
theorem dX1_chanceOf_21 : decode cX1_chanceOf 21 = .ok (.iconst 1, 1) := by decide +kernel
theorem dX1_chanceOf_22 : decode cX1_chanceOf 22 = .ok (.goto 4, 3) := by decide +kernel
theorem dX1_chanceOf_25 : decode cX1_chanceOf 25 = .ok (.iconst 0, 1) := by decide +kernel
theorem dX1_chanceOf_26 : decode cX1_chanceOf 26 = .ok (.istore 5, 2) := by decide +kernel
theorem dX1_chanceOf_28 : decode cX1_chanceOf 28 = .ok (.iload 5, 2) := by decide +kernel
theorem dX1_chanceOf_30 : decode cX1_chanceOf 30 = .ok (.ifCond .eq 23, 3) := by decide +kernel
theorem dX1_chanceOf_33 : decode cX1_chanceOf 33 = .ok (.iload_n 2, 1) := by decide +kernel
theorem dX1_chanceOf_34 : decode cX1_chanceOf 34 = .ok (.iconst 0, 1) := by decide +kernel
theorem dX1_chanceOf_35 : decode cX1_chanceOf 35 = .ok (.bipush 100, 2) := by decide +kernel
theorem dX1_chanceOf_37 : decode cX1_chanceOf 37 = .ok (.invokestatic 34, 3) := by decide +kernel
theorem dX1_chanceOf_40 : decode cX1_chanceOf 40 = .ok (.ifCond .eq 13, 3) := by decide +kernel
theorem dX1_chanceOf_43 : decode cX1_chanceOf 43 = .ok (.iload_n 3, 1) := by decide +kernel
theorem dX1_chanceOf_44 : decode cX1_chanceOf 44 = .ok (.iconst 0, 1) := by decide +kernel
theorem dX1_chanceOf_45 : decode cX1_chanceOf 45 = .ok (.bipush 100, 2) := by decide +kernel
theorem dX1_chanceOf_47 : decode cX1_chanceOf 47 = .ok (.invokestatic 34, 3) := by decide +kernel
theorem dX1_chanceOf_50 : decode cX1_chanceOf 50 = .ok (.ifCond .ne 5, 3) := by decide +kernel
theorem dX1_chanceOf_53 : decode cX1_chanceOf 53 = .ok (.iconst (-1), 1) := by decide +kernel
theorem dX1_chanceOf_54 : decode cX1_chanceOf 54 = .ok (.ireturn, 1) := by decide +kernel
theorem dX1_chanceOf_55 : decode cX1_chanceOf 55 = .ok (.aload_n 0, 1) := by decide +kernel
theorem dX1_chanceOf_56 : decode cX1_chanceOf 56 = .ok (.iload_n 1, 1) := by decide +kernel
theorem dX1_chanceOf_57 : decode cX1_chanceOf 57 = .ok (.iload_n 2, 1) := by decide +kernel
theorem dX1_chanceOf_58 : decode cX1_chanceOf 58 = .ok (.iload_n 3, 1) := by decide +kernel
theorem dX1_chanceOf_59 : decode cX1_chanceOf 59 = .ok (.invokevirtual 38, 3) := by decide +kernel
theorem dX1_chanceOf_62 : decode cX1_chanceOf 62 = .ok (.aload_n 0, 1) := by decide +kernel
theorem dX1_chanceOf_63 : decode cX1_chanceOf 63 = .ok (.iload_n 1, 1) := by decide +kernel
theorem dX1_chanceOf_64 : decode cX1_chanceOf 64 = .ok (.iload 4, 2) := by decide +kernel
theorem dX1_chanceOf_66 : decode cX1_chanceOf 66 = .ok (.aload_n 0, 1) := by decide +kernel
theorem dX1_chanceOf_67 : decode cX1_chanceOf 67 = .ok (.getfield 13, 3) := by decide +kernel
theorem dX1_chanceOf_70 : decode cX1_chanceOf 70 = .ok (.invokevirtual 42, 3) := by decide +kernel
theorem dX1_chanceOf_73 : decode cX1_chanceOf 73 = .ok (.ireturn, 1) := by decide +kernel
theorem dX1_tellLeast_0 : decode cX1_tellLeast 0 = .ok (.iload_n 3, 1) := by decide +kernel
theorem dX1_tellLeast_1 : decode cX1_tellLeast 1 = .ok (.iconst 1, 1) := by decide +kernel
theorem dX1_tellLeast_2 : decode cX1_tellLeast 2 = .ok (.ldc 46, 2) := by decide +kernel
theorem dX1_tellLeast_4 : decode cX1_tellLeast 4 = .ok (.invokestatic 34, 3) := by decide +kernel
theorem dX1_tellLeast_7 : decode cX1_tellLeast 7 = .ok (.ifCond .eq 18, 3) := by decide +kernel
theorem dX1_tellLeast_10 : decode cX1_tellLeast 10 = .ok (.iload 4, 2) := by decide +kernel
theorem dX1_tellLeast_12 : decode cX1_tellLeast 12 = .ok (.iconst 0, 1) := by decide +kernel
theorem dX1_tellLeast_13 : decode cX1_tellLeast 13 = .ok (.ldc 46, 2) := by decide +kernel
theorem dX1_tellLeast_15 : decode cX1_tellLeast 15 = .ok (.invokestatic 34, 3) := by decide +kernel
theorem dX1_tellLeast_18 : decode cX1_tellLeast 18 = .ok (.ifCond .eq 7, 3) := by decide +kernel
theorem dX1_tellLeast_21 : decode cX1_tellLeast 21 = .ok (.iconst 1, 1) := by decide +kernel
theorem dX1_tellLeast_22 : decode cX1_tellLeast 22 = .ok (.goto 4, 3) := by decide +kernel
theorem dX1_tellLeast_25 : decode cX1_tellLeast 25 = .ok (.iconst 0, 1) := by decide +kernel
theorem dX1_tellLeast_26 : decode cX1_tellLeast 26 = .ok (.istore 5, 2) := by decide +kernel
theorem dX1_tellLeast_28 : decode cX1_tellLeast 28 = .ok (.iload 5, 2) := by decide +kernel
theorem dX1_tellLeast_30 : decode cX1_tellLeast 30 = .ok (.ifCond .eq 23, 3) := by decide +kernel
theorem dX1_tellLeast_33 : decode cX1_tellLeast 33 = .ok (.iload_n 1, 1) := by decide +kernel
theorem dX1_tellLeast_34 : decode cX1_tellLeast 34 = .ok (.iconst 0, 1) := by decide +kernel
theorem dX1_tellLeast_35 : decode cX1_tellLeast 35 = .ok (.bipush 100, 2) := by decide +kernel
theorem dX1_tellLeast_37 : decode cX1_tellLeast 37 = .ok (.invokestatic 34, 3) := by decide +kernel
theorem dX1_tellLeast_40 : decode cX1_tellLeast 40 = .ok (.ifCond .eq 13, 3) := by decide +kernel
theorem dX1_tellLeast_43 : decode cX1_tellLeast 43 = .ok (.iload_n 2, 1) := by decide +kernel
theorem dX1_tellLeast_44 : decode cX1_tellLeast 44 = .ok (.iconst 0, 1) := by decide +kernel
theorem dX1_tellLeast_45 : decode cX1_tellLeast 45 = .ok (.bipush 100, 2) := by decide +kernel
theorem dX1_tellLeast_47 : decode cX1_tellLeast 47 = .ok (.invokestatic 34, 3) := by decide +kernel
theorem dX1_tellLeast_50 : decode cX1_tellLeast 50 = .ok (.ifCond .ne 5, 3) := by decide +kernel
theorem dX1_tellLeast_53 : decode cX1_tellLeast 53 = .ok (.iconst (-1), 1) := by decide +kernel
theorem dX1_tellLeast_54 : decode cX1_tellLeast 54 = .ok (.ireturn, 1) := by decide +kernel
theorem dX1_tellLeast_55 : decode cX1_tellLeast 55 = .ok (.iconst 1, 1) := by decide +kernel
theorem dX1_tellLeast_56 : decode cX1_tellLeast 56 = .ok (.istore 6, 2) := by decide +kernel
theorem dX1_tellLeast_58 : decode cX1_tellLeast 58 = .ok (.iload 6, 2) := by decide +kernel
theorem dX1_tellLeast_60 : decode cX1_tellLeast 60 = .ok (.bipush 16, 2) := by decide +kernel
theorem dX1_tellLeast_62 : decode cX1_tellLeast 62 = .ok (.if_icmp .gt 106, 3) := by decide +kernel
theorem dX1_tellLeast_65 : decode cX1_tellLeast 65 = .ok (.aload_n 0, 1) := by decide +kernel
theorem dX1_tellLeast_66 : decode cX1_tellLeast 66 = .ok (.iload 6, 2) := by decide +kernel
theorem dX1_tellLeast_68 : decode cX1_tellLeast 68 = .ok (.iload_n 1, 1) := by decide +kernel
theorem dX1_tellLeast_69 : decode cX1_tellLeast 69 = .ok (.iload_n 2, 1) := by decide +kernel
theorem dX1_tellLeast_70 : decode cX1_tellLeast 70 = .ok (.invokevirtual 38, 3) := by decide +kernel
theorem dX1_tellLeast_73 : decode cX1_tellLeast 73 = .ok (.iconst 1, 1) := by decide +kernel
theorem dX1_tellLeast_74 : decode cX1_tellLeast 74 = .ok (.istore 7, 2) := by decide +kernel
theorem dX1_tellLeast_76 : decode cX1_tellLeast 76 = .ok (.iload 7, 2) := by decide +kernel
theorem dX1_tellLeast_78 : decode cX1_tellLeast 78 = .ok (.iload 6, 2) := by decide +kernel
theorem dX1_tellLeast_80 : decode cX1_tellLeast 80 = .ok (.if_icmp .gt 82, 3) := by decide +kernel
theorem dX1_tellLeast_83 : decode cX1_tellLeast 83 = .ok (.aload_n 0, 1) := by decide +kernel
theorem dX1_tellLeast_84 : decode cX1_tellLeast 84 = .ok (.iload 6, 2) := by decide +kernel
theorem dX1_tellLeast_86 : decode cX1_tellLeast 86 = .ok (.iload 7, 2) := by decide +kernel
theorem dX1_tellLeast_88 : decode cX1_tellLeast 88 = .ok (.aload_n 0, 1) := by decide +kernel
theorem dX1_tellLeast_89 : decode cX1_tellLeast 89 = .ok (.getfield 17, 3) := by decide +kernel
theorem dX1_tellLeast_92 : decode cX1_tellLeast 92 = .ok (.invokevirtual 42, 3) := by decide +kernel
theorem dX1_tellLeast_95 : decode cX1_tellLeast 95 = .ok (.iload 4, 2) := by decide +kernel
theorem dX1_tellLeast_97 : decode cX1_tellLeast 97 = .ok (.if_icmp .gt 7, 3) := by decide +kernel
theorem dX1_tellLeast_100 : decode cX1_tellLeast 100 = .ok (.iconst 1, 1) := by decide +kernel
theorem dX1_tellLeast_101 : decode cX1_tellLeast 101 = .ok (.goto 4, 3) := by decide +kernel
theorem dX1_tellLeast_104 : decode cX1_tellLeast 104 = .ok (.iconst 0, 1) := by decide +kernel
theorem dX1_tellLeast_105 : decode cX1_tellLeast 105 = .ok (.istore 8, 2) := by decide +kernel
theorem dX1_tellLeast_107 : decode cX1_tellLeast 107 = .ok (.iload 8, 2) := by decide +kernel
theorem dX1_tellLeast_109 : decode cX1_tellLeast 109 = .ok (.ifCond .eq 39, 3) := by decide +kernel
theorem dX1_tellLeast_112 : decode cX1_tellLeast 112 = .ok (.aload_n 0, 1) := by decide +kernel
theorem dX1_tellLeast_113 : decode cX1_tellLeast 113 = .ok (.iload 6, 2) := by decide +kernel
theorem dX1_tellLeast_115 : decode cX1_tellLeast 115 = .ok (.iload 7, 2) := by decide +kernel
theorem dX1_tellLeast_117 : decode cX1_tellLeast 117 = .ok (.aload_n 0, 1) := by decide +kernel
theorem dX1_tellLeast_118 : decode cX1_tellLeast 118 = .ok (.getfield 13, 3) := by decide +kernel
theorem dX1_tellLeast_121 : decode cX1_tellLeast 121 = .ok (.invokevirtual 42, 3) := by decide +kernel
theorem dX1_tellLeast_124 : decode cX1_tellLeast 124 = .ok (.iload_n 3, 1) := by decide +kernel
theorem dX1_tellLeast_125 : decode cX1_tellLeast 125 = .ok (.if_icmp .lt 23, 3) := by decide +kernel
theorem dX1_tellLeast_128 : decode cX1_tellLeast 128 = .ok (.aload_n 0, 1) := by decide +kernel
theorem dX1_tellLeast_129 : decode cX1_tellLeast 129 = .ok (.getfield 30, 3) := by decide +kernel
theorem dX1_tellLeast_132 : decode cX1_tellLeast 132 = .ok (.invokevirtual 47, 3) := by decide +kernel
theorem dX1_tellLeast_135 : decode cX1_tellLeast 135 = .ok (.aload_n 0, 1) := by decide +kernel
theorem dX1_tellLeast_136 : decode cX1_tellLeast 136 = .ok (.getfield 30, 3) := by decide +kernel
theorem dX1_tellLeast_139 : decode cX1_tellLeast 139 = .ok (.iload 7, 2) := by decide +kernel
theorem dX1_tellLeast_141 : decode cX1_tellLeast 141 = .ok (.i2l, 1) := by decide +kernel
theorem dX1_tellLeast_142 : decode cX1_tellLeast 142 = .ok (.invokevirtual 52, 3) := by decide +kernel
theorem dX1_tellLeast_145 : decode cX1_tellLeast 145 = .ok (.iload 6, 2) := by decide +kernel
theorem dX1_tellLeast_147 : decode cX1_tellLeast 147 = .ok (.ireturn, 1) := by decide +kernel
theorem dX1_tellLeast_148 : decode cX1_tellLeast 148 = .ok (.iload 8, 2) := by decide +kernel
theorem dX1_tellLeast_150 : decode cX1_tellLeast 150 = .ok (.ifCond .eq 6, 3) := by decide +kernel
theorem dX1_tellLeast_153 : decode cX1_tellLeast 153 = .ok (.goto 9, 3) := by decide +kernel
theorem dX1_tellLeast_156 : decode cX1_tellLeast 156 = .ok (.iinc 7 1, 3) := by decide +kernel
theorem dX1_tellLeast_159 : decode cX1_tellLeast 159 = .ok (.goto (-83), 3) := by decide +kernel
theorem dX1_tellLeast_162 : decode cX1_tellLeast 162 = .ok (.iinc 6 1, 3) := by decide +kernel
theorem dX1_tellLeast_165 : decode cX1_tellLeast 165 = .ok (.goto (-107), 3) := by decide +kernel
theorem dX1_tellLeast_168 : decode cX1_tellLeast 168 = .ok (.bipush (-2), 2) := by decide +kernel
theorem dX1_tellLeast_170 : decode cX1_tellLeast 170 = .ok (.ireturn, 1) := by decide +kernel
theorem dX1_fill_0 : decode cX1_fill 0 = .ok (.iconst 0, 1) := by decide +kernel
theorem dX1_fill_1 : decode cX1_fill 1 = .ok (.istore 4, 2) := by decide +kernel
theorem dX1_fill_3 : decode cX1_fill 3 = .ok (.iload 4, 2) := by decide +kernel
theorem dX1_fill_5 : decode cX1_fill 5 = .ok (.iload_n 1, 1) := by decide +kernel
theorem dX1_fill_6 : decode cX1_fill 6 = .ok (.if_icmp .gt 89, 3) := by decide +kernel
theorem dX1_fill_9 : decode cX1_fill 9 = .ok (.aload_n 0, 1) := by decide +kernel
theorem dX1_fill_10 : decode cX1_fill 10 = .ok (.getfield 13, 3) := by decide +kernel
theorem dX1_fill_13 : decode cX1_fill 13 = .ok (.iload 4, 2) := by decide +kernel
theorem dX1_fill_15 : decode cX1_fill 15 = .ok (.aaload, 1) := by decide +kernel
theorem dX1_fill_16 : decode cX1_fill 16 = .ok (.iload_n 1, 1) := by decide +kernel
theorem dX1_fill_17 : decode cX1_fill 17 = .ok (.iload 4, 2) := by decide +kernel
theorem dX1_fill_19 : decode cX1_fill 19 = .ok (.iload_n 2, 1) := by decide +kernel
theorem dX1_fill_20 : decode cX1_fill 20 = .ok (.invokestatic 56, 3) := by decide +kernel
theorem dX1_fill_23 : decode cX1_fill 23 = .ok (.aload_n 0, 1) := by decide +kernel
theorem dX1_fill_24 : decode cX1_fill 24 = .ok (.getfield 17, 3) := by decide +kernel
theorem dX1_fill_27 : decode cX1_fill 27 = .ok (.iload 4, 2) := by decide +kernel
theorem dX1_fill_29 : decode cX1_fill 29 = .ok (.aaload, 1) := by decide +kernel
theorem dX1_fill_30 : decode cX1_fill 30 = .ok (.iload_n 1, 1) := by decide +kernel
theorem dX1_fill_31 : decode cX1_fill 31 = .ok (.iload 4, 2) := by decide +kernel
theorem dX1_fill_33 : decode cX1_fill 33 = .ok (.iload_n 3, 1) := by decide +kernel
theorem dX1_fill_34 : decode cX1_fill 34 = .ok (.invokestatic 56, 3) := by decide +kernel
theorem dX1_fill_37 : decode cX1_fill 37 = .ok (.aload_n 0, 1) := by decide +kernel
theorem dX1_fill_38 : decode cX1_fill 38 = .ok (.getfield 20, 3) := by decide +kernel
theorem dX1_fill_41 : decode cX1_fill 41 = .ok (.iload 4, 2) := by decide +kernel
theorem dX1_fill_43 : decode cX1_fill 43 = .ok (.aaload, 1) := by decide +kernel
theorem dX1_fill_44 : decode cX1_fill 44 = .ok (.iconst 0, 1) := by decide +kernel
theorem dX1_fill_45 : decode cX1_fill 45 = .ok (.invokevirtual 60, 3) := by decide +kernel
theorem dX1_fill_48 : decode cX1_fill 48 = .ok (.iload 4, 2) := by decide +kernel
theorem dX1_fill_50 : decode cX1_fill 50 = .ok (.ifCond .le 22, 3) := by decide +kernel
theorem dX1_fill_53 : decode cX1_fill 53 = .ok (.aload_n 0, 1) := by decide +kernel
theorem dX1_fill_54 : decode cX1_fill 54 = .ok (.getfield 20, 3) := by decide +kernel
theorem dX1_fill_57 : decode cX1_fill 57 = .ok (.iload 4, 2) := by decide +kernel
theorem dX1_fill_59 : decode cX1_fill 59 = .ok (.aaload, 1) := by decide +kernel
theorem dX1_fill_60 : decode cX1_fill 60 = .ok (.aload_n 0, 1) := by decide +kernel
theorem dX1_fill_61 : decode cX1_fill 61 = .ok (.getfield 20, 3) := by decide +kernel
theorem dX1_fill_64 : decode cX1_fill 64 = .ok (.iload 4, 2) := by decide +kernel
theorem dX1_fill_66 : decode cX1_fill 66 = .ok (.iconst 1, 1) := by decide +kernel
theorem dX1_fill_67 : decode cX1_fill 67 = .ok (.isub, 1) := by decide +kernel
theorem dX1_fill_68 : decode cX1_fill 68 = .ok (.aaload, 1) := by decide +kernel
theorem dX1_fill_69 : decode cX1_fill 69 = .ok (.invokevirtual 63, 3) := by decide +kernel
theorem dX1_fill_72 : decode cX1_fill 72 = .ok (.aload_n 0, 1) := by decide +kernel
theorem dX1_fill_73 : decode cX1_fill 73 = .ok (.getfield 20, 3) := by decide +kernel
theorem dX1_fill_76 : decode cX1_fill 76 = .ok (.iload 4, 2) := by decide +kernel
theorem dX1_fill_78 : decode cX1_fill 78 = .ok (.aaload, 1) := by decide +kernel
theorem dX1_fill_79 : decode cX1_fill 79 = .ok (.aload_n 0, 1) := by decide +kernel
theorem dX1_fill_80 : decode cX1_fill 80 = .ok (.getfield 17, 3) := by decide +kernel
theorem dX1_fill_83 : decode cX1_fill 83 = .ok (.iload 4, 2) := by decide +kernel
theorem dX1_fill_85 : decode cX1_fill 85 = .ok (.aaload, 1) := by decide +kernel
theorem dX1_fill_86 : decode cX1_fill 86 = .ok (.invokevirtual 63, 3) := by decide +kernel
theorem dX1_fill_89 : decode cX1_fill 89 = .ok (.iinc 4 1, 3) := by decide +kernel
theorem dX1_fill_92 : decode cX1_fill 92 = .ok (.goto (-89), 3) := by decide +kernel
theorem dX1_fill_95 : decode cX1_fill 95 = .ok (.return_, 1) := by decide +kernel
theorem dX1_fillWays_0 : decode cX1_fillWays 0 = .ok (.aload_n 0, 1) := by decide +kernel
theorem dX1_fillWays_1 : decode cX1_fillWays 1 = .ok (.iload_n 1, 1) := by decide +kernel
theorem dX1_fillWays_2 : decode cX1_fillWays 2 = .ok (.iload_n 2, 1) := by decide +kernel
theorem dX1_fillWays_3 : decode cX1_fillWays 3 = .ok (.invokestatic 66, 3) := by decide +kernel
theorem dX1_fillWays_6 : decode cX1_fillWays 6 = .ok (.l2i, 1) := by decide +kernel
theorem dX1_fillWays_7 : decode cX1_fillWays 7 = .ok (.invokevirtual 60, 3) := by decide +kernel
theorem dX1_fillWays_10 : decode cX1_fillWays 10 = .ok (.iconst 0, 1) := by decide +kernel
theorem dX1_fillWays_11 : decode cX1_fillWays 11 = .ok (.istore 4, 2) := by decide +kernel
theorem dX1_fillWays_13 : decode cX1_fillWays 13 = .ok (.iload 4, 2) := by decide +kernel
theorem dX1_fillWays_15 : decode cX1_fillWays 15 = .ok (.iload_n 1, 1) := by decide +kernel
theorem dX1_fillWays_16 : decode cX1_fillWays 16 = .ok (.if_icmp .ge 29, 3) := by decide +kernel
theorem dX1_fillWays_19 : decode cX1_fillWays 19 = .ok (.aload_n 0, 1) := by decide +kernel
theorem dX1_fillWays_20 : decode cX1_fillWays 20 = .ok (.iload 4, 2) := by decide +kernel
theorem dX1_fillWays_22 : decode cX1_fillWays 22 = .ok (.iload_n 2, 1) := by decide +kernel
theorem dX1_fillWays_23 : decode cX1_fillWays 23 = .ok (.if_icmp .ge 8, 3) := by decide +kernel
theorem dX1_fillWays_26 : decode cX1_fillWays 26 = .ok (.iload_n 3, 1) := by decide +kernel
theorem dX1_fillWays_27 : decode cX1_fillWays 27 = .ok (.i2l, 1) := by decide +kernel
theorem dX1_fillWays_28 : decode cX1_fillWays 28 = .ok (.goto 8, 3) := by decide +kernel
theorem dX1_fillWays_31 : decode cX1_fillWays 31 = .ok (.bipush 100, 2) := by decide +kernel
theorem dX1_fillWays_33 : decode cX1_fillWays 33 = .ok (.iload_n 3, 1) := by decide +kernel
theorem dX1_fillWays_34 : decode cX1_fillWays 34 = .ok (.isub, 1) := by decide +kernel
theorem dX1_fillWays_35 : decode cX1_fillWays 35 = .ok (.i2l, 1) := by decide +kernel
theorem dX1_fillWays_36 : decode cX1_fillWays 36 = .ok (.invokevirtual 70, 3) := by decide +kernel
theorem dX1_fillWays_39 : decode cX1_fillWays 39 = .ok (.iinc 4 1, 3) := by decide +kernel
theorem dX1_fillWays_42 : decode cX1_fillWays 42 = .ok (.goto (-29), 3) := by decide +kernel
theorem dX1_fillWays_45 : decode cX1_fillWays 45 = .ok (.return_, 1) := by decide +kernel
theorem dX1_chance_0 : decode cX1_chance 0 = .ok (.aload_n 0, 1) := by decide +kernel
theorem dX1_chance_1 : decode cX1_chance 1 = .ok (.getfield 26, 3) := by decide +kernel
theorem dX1_chance_4 : decode cX1_chance 4 = .ok (.iconst 0, 1) := by decide +kernel
theorem dX1_chance_5 : decode cX1_chance 5 = .ok (.invokevirtual 60, 3) := by decide +kernel
theorem dX1_chance_8 : decode cX1_chance 8 = .ok (.iload_n 2, 1) := by decide +kernel
theorem dX1_chance_9 : decode cX1_chance 9 = .ok (.istore 4, 2) := by decide +kernel
theorem dX1_chance_11 : decode cX1_chance 11 = .ok (.iload 4, 2) := by decide +kernel
theorem dX1_chance_13 : decode cX1_chance 13 = .ok (.iload_n 1, 1) := by decide +kernel
theorem dX1_chance_14 : decode cX1_chance 14 = .ok (.if_icmp .gt 29, 3) := by decide +kernel
theorem dX1_chance_17 : decode cX1_chance 17 = .ok (.aload_n 0, 1) := by decide +kernel
theorem dX1_chance_18 : decode cX1_chance 18 = .ok (.getfield 26, 3) := by decide +kernel
theorem dX1_chance_21 : decode cX1_chance 21 = .ok (.aload_n 3, 1) := by decide +kernel
theorem dX1_chance_22 : decode cX1_chance 22 = .ok (.iload 4, 2) := by decide +kernel
theorem dX1_chance_24 : decode cX1_chance 24 = .ok (.aaload, 1) := by decide +kernel
theorem dX1_chance_25 : decode cX1_chance 25 = .ok (.aload_n 0, 1) := by decide +kernel
theorem dX1_chance_26 : decode cX1_chance 26 = .ok (.getfield 20, 3) := by decide +kernel
theorem dX1_chance_29 : decode cX1_chance 29 = .ok (.iload 4, 2) := by decide +kernel
theorem dX1_chance_31 : decode cX1_chance 31 = .ok (.iload_n 2, 1) := by decide +kernel
theorem dX1_chance_32 : decode cX1_chance 32 = .ok (.isub, 1) := by decide +kernel
theorem dX1_chance_33 : decode cX1_chance 33 = .ok (.aaload, 1) := by decide +kernel
theorem dX1_chance_34 : decode cX1_chance 34 = .ok (.invokevirtual 73, 3) := by decide +kernel
theorem dX1_chance_37 : decode cX1_chance 37 = .ok (.iinc 4 1, 3) := by decide +kernel
theorem dX1_chance_40 : decode cX1_chance 40 = .ok (.goto (-29), 3) := by decide +kernel
theorem dX1_chance_43 : decode cX1_chance 43 = .ok (.aload_n 0, 1) := by decide +kernel
theorem dX1_chance_44 : decode cX1_chance 44 = .ok (.getfield 26, 3) := by decide +kernel
theorem dX1_chance_47 : decode cX1_chance 47 = .ok (.ldc2_w 77, 3) := by decide +kernel
theorem dX1_chance_50 : decode cX1_chance 50 = .ok (.invokevirtual 70, 3) := by decide +kernel
theorem dX1_chance_53 : decode cX1_chance 53 = .ok (.aload_n 0, 1) := by decide +kernel
theorem dX1_chance_54 : decode cX1_chance 54 = .ok (.getfield 26, 3) := by decide +kernel
theorem dX1_chance_57 : decode cX1_chance 57 = .ok (.iload_n 1, 1) := by decide +kernel
theorem dX1_chance_58 : decode cX1_chance 58 = .ok (.invokevirtual 79, 3) := by decide +kernel
theorem dX1_chance_61 : decode cX1_chance 61 = .ok (.l2i, 1) := by decide +kernel
theorem dX1_chance_62 : decode cX1_chance 62 = .ok (.ireturn, 1) := by decide +kernel
theorem dX2_init_0 : decode cX2_init 0 = .ok (.aload_n 0, 1) := by decide +kernel
theorem dX2_init_1 : decode cX2_init 1 = .ok (.invokespecial 3, 3) := by decide +kernel
theorem dX2_init_4 : decode cX2_init 4 = .ok (.aload_n 0, 1) := by decide +kernel
theorem dX2_init_5 : decode cX2_init 5 = .ok (.new 9, 3) := by decide +kernel
theorem dX2_init_8 : decode cX2_init 8 = .ok (.dup, 1) := by decide +kernel
theorem dX2_init_9 : decode cX2_init 9 = .ok (.invokespecial 11, 3) := by decide +kernel
theorem dX2_init_12 : decode cX2_init 12 = .ok (.putfield 12, 3) := by decide +kernel
theorem dX2_init_15 : decode cX2_init 15 = .ok (.aload_n 0, 1) := by decide +kernel
theorem dX2_init_16 : decode cX2_init 16 = .ok (.bipush 10, 2) := by decide +kernel
theorem dX2_init_18 : decode cX2_init 18 = .ok (.anewarray 9, 3) := by decide +kernel
theorem dX2_init_21 : decode cX2_init 21 = .ok (.putfield 18, 3) := by decide +kernel
theorem dX2_init_24 : decode cX2_init 24 = .ok (.aload_n 0, 1) := by decide +kernel
theorem dX2_init_25 : decode cX2_init 25 = .ok (.aload_n 1, 1) := by decide +kernel
theorem dX2_init_26 : decode cX2_init 26 = .ok (.putfield 22, 3) := by decide +kernel
theorem dX2_init_29 : decode cX2_init 29 = .ok (.aload_n 0, 1) := by decide +kernel
theorem dX2_init_30 : decode cX2_init 30 = .ok (.aload_n 2, 1) := by decide +kernel
theorem dX2_init_31 : decode cX2_init 31 = .ok (.putfield 26, 3) := by decide +kernel
theorem dX2_init_34 : decode cX2_init 34 = .ok (.iconst 0, 1) := by decide +kernel
theorem dX2_init_35 : decode cX2_init 35 = .ok (.istore_n 3, 1) := by decide +kernel
theorem dX2_init_36 : decode cX2_init 36 = .ok (.iload_n 3, 1) := by decide +kernel
theorem dX2_init_37 : decode cX2_init 37 = .ok (.bipush 10, 2) := by decide +kernel
theorem dX2_init_39 : decode cX2_init 39 = .ok (.if_icmp .ge 22, 3) := by decide +kernel
theorem dX2_init_42 : decode cX2_init 42 = .ok (.aload_n 0, 1) := by decide +kernel
theorem dX2_init_43 : decode cX2_init 43 = .ok (.getfield 18, 3) := by decide +kernel
theorem dX2_init_46 : decode cX2_init 46 = .ok (.iload_n 3, 1) := by decide +kernel
theorem dX2_init_47 : decode cX2_init 47 = .ok (.new 9, 3) := by decide +kernel
theorem dX2_init_50 : decode cX2_init 50 = .ok (.dup, 1) := by decide +kernel
theorem dX2_init_51 : decode cX2_init 51 = .ok (.invokespecial 11, 3) := by decide +kernel
theorem dX2_init_54 : decode cX2_init 54 = .ok (.aastore, 1) := by decide +kernel
theorem dX2_init_55 : decode cX2_init 55 = .ok (.iinc 3 1, 3) := by decide +kernel
theorem dX2_init_58 : decode cX2_init 58 = .ok (.goto (-22), 3) := by decide +kernel
theorem dX2_init_61 : decode cX2_init 61 = .ok (.return_, 1) := by decide +kernel
theorem dX2_valueOf_0 : decode cX2_valueOf 0 = .ok (.iload_n 2, 1) := by decide +kernel
theorem dX2_valueOf_1 : decode cX2_valueOf 1 = .ok (.tableswitch 58 0 2 #[27, 32, 45], 27) := by decide +kernel
theorem dX2_valueOf_28 : decode cX2_valueOf 28 = .ok (.aload_n 1, 1) := by decide +kernel
theorem dX2_valueOf_29 : decode cX2_valueOf 29 = .ok (.getfield 30, 3) := by decide +kernel
theorem dX2_valueOf_32 : decode cX2_valueOf 32 = .ok (.ireturn, 1) := by decide +kernel
theorem dX2_valueOf_33 : decode cX2_valueOf 33 = .ok (.aload_n 0, 1) := by decide +kernel
theorem dX2_valueOf_34 : decode cX2_valueOf 34 = .ok (.getfield 22, 3) := by decide +kernel
theorem dX2_valueOf_37 : decode cX2_valueOf 37 = .ok (.getfield 36, 3) := by decide +kernel
theorem dX2_valueOf_40 : decode cX2_valueOf 40 = .ok (.aload_n 1, 1) := by decide +kernel
theorem dX2_valueOf_41 : decode cX2_valueOf 41 = .ok (.getfield 42, 3) := by decide +kernel
theorem dX2_valueOf_44 : decode cX2_valueOf 44 = .ok (.iaload, 1) := by decide +kernel
theorem dX2_valueOf_45 : decode cX2_valueOf 45 = .ok (.ireturn, 1) := by decide +kernel
theorem dX2_valueOf_46 : decode cX2_valueOf 46 = .ok (.aload_n 0, 1) := by decide +kernel
theorem dX2_valueOf_47 : decode cX2_valueOf 47 = .ok (.getfield 22, 3) := by decide +kernel
theorem dX2_valueOf_50 : decode cX2_valueOf 50 = .ok (.getfield 45, 3) := by decide +kernel
theorem dX2_valueOf_53 : decode cX2_valueOf 53 = .ok (.aload_n 1, 1) := by decide +kernel
theorem dX2_valueOf_54 : decode cX2_valueOf 54 = .ok (.getfield 42, 3) := by decide +kernel
theorem dX2_valueOf_57 : decode cX2_valueOf 57 = .ok (.iaload, 1) := by decide +kernel
theorem dX2_valueOf_58 : decode cX2_valueOf 58 = .ok (.ireturn, 1) := by decide +kernel
theorem dX2_valueOf_59 : decode cX2_valueOf 59 = .ok (.aload_n 1, 1) := by decide +kernel
theorem dX2_valueOf_60 : decode cX2_valueOf 60 = .ok (.getfield 48, 3) := by decide +kernel
theorem dX2_valueOf_63 : decode cX2_valueOf 63 = .ok (.ireturn, 1) := by decide +kernel
theorem dX2_gatherBy_0 : decode cX2_gatherBy 0 = .ok (.aload_n 0, 1) := by decide +kernel
theorem dX2_gatherBy_1 : decode cX2_gatherBy 1 = .ok (.getfield 12, 3) := by decide +kernel
theorem dX2_gatherBy_4 : decode cX2_gatherBy 4 = .ok (.invokevirtual 51, 3) := by decide +kernel
theorem dX2_gatherBy_7 : decode cX2_gatherBy 7 = .ok (.iconst 0, 1) := by decide +kernel
theorem dX2_gatherBy_8 : decode cX2_gatherBy 8 = .ok (.istore_n 2, 1) := by decide +kernel
theorem dX2_gatherBy_9 : decode cX2_gatherBy 9 = .ok (.iload_n 2, 1) := by decide +kernel
theorem dX2_gatherBy_10 : decode cX2_gatherBy 10 = .ok (.bipush 10, 2) := by decide +kernel
theorem dX2_gatherBy_12 : decode cX2_gatherBy 12 = .ok (.if_icmp .ge 18, 3) := by decide +kernel
theorem dX2_gatherBy_15 : decode cX2_gatherBy 15 = .ok (.aload_n 0, 1) := by decide +kernel
theorem dX2_gatherBy_16 : decode cX2_gatherBy 16 = .ok (.getfield 18, 3) := by decide +kernel
theorem dX2_gatherBy_19 : decode cX2_gatherBy 19 = .ok (.iload_n 2, 1) := by decide +kernel
theorem dX2_gatherBy_20 : decode cX2_gatherBy 20 = .ok (.aaload, 1) := by decide +kernel
theorem dX2_gatherBy_21 : decode cX2_gatherBy 21 = .ok (.invokevirtual 51, 3) := by decide +kernel
theorem dX2_gatherBy_24 : decode cX2_gatherBy 24 = .ok (.iinc 2 1, 3) := by decide +kernel
theorem dX2_gatherBy_27 : decode cX2_gatherBy 27 = .ok (.goto (-18), 3) := by decide +kernel
theorem dX2_gatherBy_30 : decode cX2_gatherBy 30 = .ok (.iconst 0, 1) := by decide +kernel
theorem dX2_gatherBy_31 : decode cX2_gatherBy 31 = .ok (.istore_n 2, 1) := by decide +kernel
theorem dX2_gatherBy_32 : decode cX2_gatherBy 32 = .ok (.iload_n 2, 1) := by decide +kernel
theorem dX2_gatherBy_33 : decode cX2_gatherBy 33 = .ok (.aload_n 0, 1) := by decide +kernel
theorem dX2_gatherBy_34 : decode cX2_gatherBy 34 = .ok (.getfield 22, 3) := by decide +kernel
theorem dX2_gatherBy_37 : decode cX2_gatherBy 37 = .ok (.getfield 54, 3) := by decide +kernel
theorem dX2_gatherBy_40 : decode cX2_gatherBy 40 = .ok (.if_icmp .ge 71, 3) := by decide +kernel
theorem dX2_gatherBy_43 : decode cX2_gatherBy 43 = .ok (.aload_n 0, 1) := by decide +kernel
theorem dX2_gatherBy_44 : decode cX2_gatherBy 44 = .ok (.getfield 22, 3) := by decide +kernel
theorem dX2_gatherBy_47 : decode cX2_gatherBy 47 = .ok (.getfield 57, 3) := by decide +kernel
theorem dX2_gatherBy_50 : decode cX2_gatherBy 50 = .ok (.iload_n 2, 1) := by decide +kernel
theorem dX2_gatherBy_51 : decode cX2_gatherBy 51 = .ok (.aaload, 1) := by decide +kernel
theorem dX2_gatherBy_52 : decode cX2_gatherBy 52 = .ok (.astore_n 3, 1) := by decide +kernel
theorem dX2_gatherBy_53 : decode cX2_gatherBy 53 = .ok (.aload_n 3, 1) := by decide +kernel
theorem dX2_gatherBy_54 : decode cX2_gatherBy 54 = .ok (.getfield 61, 3) := by decide +kernel
theorem dX2_gatherBy_57 : decode cX2_gatherBy 57 = .ok (.ifCond .eq 48, 3) := by decide +kernel
theorem dX2_gatherBy_60 : decode cX2_gatherBy 60 = .ok (.aload_n 0, 1) := by decide +kernel
theorem dX2_gatherBy_61 : decode cX2_gatherBy 61 = .ok (.getfield 12, 3) := by decide +kernel
theorem dX2_gatherBy_64 : decode cX2_gatherBy 64 = .ok (.aload_n 0, 1) := by decide +kernel
theorem dX2_gatherBy_65 : decode cX2_gatherBy 65 = .ok (.getfield 22, 3) := by decide +kernel
theorem dX2_gatherBy_68 : decode cX2_gatherBy 68 = .ok (.aload_n 3, 1) := by decide +kernel
theorem dX2_gatherBy_69 : decode cX2_gatherBy 69 = .ok (.invokevirtual 65, 3) := by decide +kernel
theorem dX2_gatherBy_72 : decode cX2_gatherBy 72 = .ok (.aload_n 3, 1) := by decide +kernel
theorem dX2_gatherBy_73 : decode cX2_gatherBy 73 = .ok (.getfield 69, 3) := by decide +kernel
theorem dX2_gatherBy_76 : decode cX2_gatherBy 76 = .ok (.invokevirtual 72, 3) := by decide +kernel
theorem dX2_gatherBy_79 : decode cX2_gatherBy 79 = .ok (.aload_n 0, 1) := by decide +kernel
theorem dX2_gatherBy_80 : decode cX2_gatherBy 80 = .ok (.getfield 18, 3) := by decide +kernel
theorem dX2_gatherBy_83 : decode cX2_gatherBy 83 = .ok (.aload_n 0, 1) := by decide +kernel
theorem dX2_gatherBy_84 : decode cX2_gatherBy 84 = .ok (.aload_n 3, 1) := by decide +kernel
theorem dX2_gatherBy_85 : decode cX2_gatherBy 85 = .ok (.iload_n 1, 1) := by decide +kernel
theorem dX2_gatherBy_86 : decode cX2_gatherBy 86 = .ok (.invokevirtual 76, 3) := by decide +kernel
theorem dX2_gatherBy_89 : decode cX2_gatherBy 89 = .ok (.aaload, 1) := by decide +kernel
theorem dX2_gatherBy_90 : decode cX2_gatherBy 90 = .ok (.aload_n 0, 1) := by decide +kernel
theorem dX2_gatherBy_91 : decode cX2_gatherBy 91 = .ok (.getfield 22, 3) := by decide +kernel
theorem dX2_gatherBy_94 : decode cX2_gatherBy 94 = .ok (.aload_n 3, 1) := by decide +kernel
theorem dX2_gatherBy_95 : decode cX2_gatherBy 95 = .ok (.invokevirtual 65, 3) := by decide +kernel
theorem dX2_gatherBy_98 : decode cX2_gatherBy 98 = .ok (.aload_n 3, 1) := by decide +kernel
theorem dX2_gatherBy_99 : decode cX2_gatherBy 99 = .ok (.getfield 69, 3) := by decide +kernel
theorem dX2_gatherBy_102 : decode cX2_gatherBy 102 = .ok (.invokevirtual 72, 3) := by decide +kernel
theorem dX2_gatherBy_105 : decode cX2_gatherBy 105 = .ok (.iinc 2 1, 3) := by decide +kernel
theorem dX2_gatherBy_108 : decode cX2_gatherBy 108 = .ok (.goto (-76), 3) := by decide +kernel
theorem dX2_gatherBy_111 : decode cX2_gatherBy 111 = .ok (.return_, 1) := by decide +kernel
theorem dX2_gatherWorth_0 : decode cX2_gatherWorth 0 = .ok (.aload_n 1, 1) := by decide +kernel
theorem dX2_gatherWorth_1 : decode cX2_gatherWorth 1 = .ok (.invokevirtual 51, 3) := by decide +kernel
theorem dX2_gatherWorth_4 : decode cX2_gatherWorth 4 = .ok (.iconst 0, 1) := by decide +kernel
theorem dX2_gatherWorth_5 : decode cX2_gatherWorth 5 = .ok (.istore 4, 2) := by decide +kernel
theorem dX2_gatherWorth_7 : decode cX2_gatherWorth 7 = .ok (.iload 4, 2) := by decide +kernel
theorem dX2_gatherWorth_9 : decode cX2_gatherWorth 9 = .ok (.aload_n 0, 1) := by decide +kernel
theorem dX2_gatherWorth_10 : decode cX2_gatherWorth 10 = .ok (.getfield 22, 3) := by decide +kernel
theorem dX2_gatherWorth_13 : decode cX2_gatherWorth 13 = .ok (.getfield 54, 3) := by decide +kernel
theorem dX2_gatherWorth_16 : decode cX2_gatherWorth 16 = .ok (.if_icmp .ge 60, 3) := by decide +kernel
theorem dX2_gatherWorth_19 : decode cX2_gatherWorth 19 = .ok (.aload_n 0, 1) := by decide +kernel
theorem dX2_gatherWorth_20 : decode cX2_gatherWorth 20 = .ok (.getfield 22, 3) := by decide +kernel
theorem dX2_gatherWorth_23 : decode cX2_gatherWorth 23 = .ok (.getfield 57, 3) := by decide +kernel
theorem dX2_gatherWorth_26 : decode cX2_gatherWorth 26 = .ok (.iload 4, 2) := by decide +kernel
theorem dX2_gatherWorth_28 : decode cX2_gatherWorth 28 = .ok (.aaload, 1) := by decide +kernel
theorem dX2_gatherWorth_29 : decode cX2_gatherWorth 29 = .ok (.astore 5, 2) := by decide +kernel
theorem dX2_gatherWorth_31 : decode cX2_gatherWorth 31 = .ok (.aload 5, 2) := by decide +kernel
theorem dX2_gatherWorth_33 : decode cX2_gatherWorth 33 = .ok (.getfield 61, 3) := by decide +kernel
theorem dX2_gatherWorth_36 : decode cX2_gatherWorth 36 = .ok (.ifCond .eq 34, 3) := by decide +kernel
theorem dX2_gatherWorth_39 : decode cX2_gatherWorth 39 = .ok (.aload 5, 2) := by decide +kernel
theorem dX2_gatherWorth_41 : decode cX2_gatherWorth 41 = .ok (.getfield 80, 3) := by decide +kernel
theorem dX2_gatherWorth_44 : decode cX2_gatherWorth 44 = .ok (.iload_n 2, 1) := by decide +kernel
theorem dX2_gatherWorth_45 : decode cX2_gatherWorth 45 = .ok (.iload_n 3, 1) := by decide +kernel
theorem dX2_gatherWorth_46 : decode cX2_gatherWorth 46 = .ok (.invokestatic 83, 3) := by decide +kernel
theorem dX2_gatherWorth_49 : decode cX2_gatherWorth 49 = .ok (.ifCond .eq 21, 3) := by decide +kernel
theorem dX2_gatherWorth_52 : decode cX2_gatherWorth 52 = .ok (.aload_n 1, 1) := by decide +kernel
theorem dX2_gatherWorth_53 : decode cX2_gatherWorth 53 = .ok (.aload_n 0, 1) := by decide +kernel
theorem dX2_gatherWorth_54 : decode cX2_gatherWorth 54 = .ok (.getfield 22, 3) := by decide +kernel
theorem dX2_gatherWorth_57 : decode cX2_gatherWorth 57 = .ok (.aload 5, 2) := by decide +kernel
theorem dX2_gatherWorth_59 : decode cX2_gatherWorth 59 = .ok (.invokevirtual 65, 3) := by decide +kernel
theorem dX2_gatherWorth_62 : decode cX2_gatherWorth 62 = .ok (.aload 5, 2) := by decide +kernel
theorem dX2_gatherWorth_64 : decode cX2_gatherWorth 64 = .ok (.getfield 69, 3) := by decide +kernel
theorem dX2_gatherWorth_67 : decode cX2_gatherWorth 67 = .ok (.invokevirtual 72, 3) := by decide +kernel
theorem dX2_gatherWorth_70 : decode cX2_gatherWorth 70 = .ok (.iinc 4 1, 3) := by decide +kernel
theorem dX2_gatherWorth_73 : decode cX2_gatherWorth 73 = .ok (.goto (-66), 3) := by decide +kernel
theorem dX2_gatherWorth_76 : decode cX2_gatherWorth 76 = .ok (.return_, 1) := by decide +kernel
theorem dX2_tellBoth_0 : decode cX2_tellBoth 0 = .ok (.iload_n 1, 1) := by decide +kernel
theorem dX2_tellBoth_1 : decode cX2_tellBoth 1 = .ok (.iconst 1, 1) := by decide +kernel
theorem dX2_tellBoth_2 : decode cX2_tellBoth 2 = .ok (.bipush 99, 2) := by decide +kernel
theorem dX2_tellBoth_4 : decode cX2_tellBoth 4 = .ok (.invokestatic 83, 3) := by decide +kernel
theorem dX2_tellBoth_7 : decode cX2_tellBoth 7 = .ok (.ifCond .ne 5, 3) := by decide +kernel
theorem dX2_tellBoth_10 : decode cX2_tellBoth 10 = .ok (.iconst (-1), 1) := by decide +kernel
theorem dX2_tellBoth_11 : decode cX2_tellBoth 11 = .ok (.ireturn, 1) := by decide +kernel
theorem dX2_tellBoth_12 : decode cX2_tellBoth 12 = .ok (.aload_n 0, 1) := by decide +kernel
theorem dX2_tellBoth_13 : decode cX2_tellBoth 13 = .ok (.getfield 18, 3) := by decide +kernel
theorem dX2_tellBoth_16 : decode cX2_tellBoth 16 = .ok (.iconst 0, 1) := by decide +kernel
theorem dX2_tellBoth_17 : decode cX2_tellBoth 17 = .ok (.aaload, 1) := by decide +kernel
theorem dX2_tellBoth_18 : decode cX2_tellBoth 18 = .ok (.astore_n 2, 1) := by decide +kernel
theorem dX2_tellBoth_19 : decode cX2_tellBoth 19 = .ok (.aload_n 0, 1) := by decide +kernel
theorem dX2_tellBoth_20 : decode cX2_tellBoth 20 = .ok (.getfield 18, 3) := by decide +kernel
theorem dX2_tellBoth_23 : decode cX2_tellBoth 23 = .ok (.iconst 1, 1) := by decide +kernel
theorem dX2_tellBoth_24 : decode cX2_tellBoth 24 = .ok (.aaload, 1) := by decide +kernel
theorem dX2_tellBoth_25 : decode cX2_tellBoth 25 = .ok (.astore_n 3, 1) := by decide +kernel
theorem dX2_tellBoth_26 : decode cX2_tellBoth 26 = .ok (.aload_n 0, 1) := by decide +kernel
theorem dX2_tellBoth_27 : decode cX2_tellBoth 27 = .ok (.aload_n 2, 1) := by decide +kernel
theorem dX2_tellBoth_28 : decode cX2_tellBoth 28 = .ok (.iload_n 1, 1) := by decide +kernel
theorem dX2_tellBoth_29 : decode cX2_tellBoth 29 = .ok (.bipush 99, 2) := by decide +kernel
theorem dX2_tellBoth_31 : decode cX2_tellBoth 31 = .ok (.invokevirtual 87, 3) := by decide +kernel
theorem dX2_tellBoth_34 : decode cX2_tellBoth 34 = .ok (.aload_n 0, 1) := by decide +kernel
theorem dX2_tellBoth_35 : decode cX2_tellBoth 35 = .ok (.aload_n 3, 1) := by decide +kernel
theorem dX2_tellBoth_36 : decode cX2_tellBoth 36 = .ok (.iconst 0, 1) := by decide +kernel
theorem dX2_tellBoth_37 : decode cX2_tellBoth 37 = .ok (.iload_n 1, 1) := by decide +kernel
theorem dX2_tellBoth_38 : decode cX2_tellBoth 38 = .ok (.iconst 1, 1) := by decide +kernel
theorem dX2_tellBoth_39 : decode cX2_tellBoth 39 = .ok (.isub, 1) := by decide +kernel
theorem dX2_tellBoth_40 : decode cX2_tellBoth 40 = .ok (.invokevirtual 87, 3) := by decide +kernel
theorem dX2_tellBoth_43 : decode cX2_tellBoth 43 = .ok (.aload_n 2, 1) := by decide +kernel
theorem dX2_tellBoth_44 : decode cX2_tellBoth 44 = .ok (.invokevirtual 91, 3) := by decide +kernel
theorem dX2_tellBoth_47 : decode cX2_tellBoth 47 = .ok (.ifCond .eq 10, 3) := by decide +kernel
theorem dX2_tellBoth_50 : decode cX2_tellBoth 50 = .ok (.aload_n 3, 1) := by decide +kernel
theorem dX2_tellBoth_51 : decode cX2_tellBoth 51 = .ok (.invokevirtual 91, 3) := by decide +kernel
theorem dX2_tellBoth_54 : decode cX2_tellBoth 54 = .ok (.ifCond .ne 6, 3) := by decide +kernel
theorem dX2_tellBoth_57 : decode cX2_tellBoth 57 = .ok (.bipush (-2), 2) := by decide +kernel
theorem dX2_tellBoth_59 : decode cX2_tellBoth 59 = .ok (.ireturn, 1) := by decide +kernel
theorem dX2_tellBoth_60 : decode cX2_tellBoth 60 = .ok (.aload_n 0, 1) := by decide +kernel
theorem dX2_tellBoth_61 : decode cX2_tellBoth 61 = .ok (.getfield 26, 3) := by decide +kernel
theorem dX2_tellBoth_64 : decode cX2_tellBoth 64 = .ok (.invokevirtual 95, 3) := by decide +kernel
theorem dX2_tellBoth_67 : decode cX2_tellBoth 67 = .ok (.iconst 0, 1) := by decide +kernel
theorem dX2_tellBoth_68 : decode cX2_tellBoth 68 = .ok (.istore 4, 2) := by decide +kernel
theorem dX2_tellBoth_70 : decode cX2_tellBoth 70 = .ok (.iload 4, 2) := by decide +kernel
theorem dX2_tellBoth_72 : decode cX2_tellBoth 72 = .ok (.iconst 2, 1) := by decide +kernel
theorem dX2_tellBoth_73 : decode cX2_tellBoth 73 = .ok (.if_icmp .ge 69, 3) := by decide +kernel
theorem dX2_tellBoth_76 : decode cX2_tellBoth 76 = .ok (.aload_n 0, 1) := by decide +kernel
theorem dX2_tellBoth_77 : decode cX2_tellBoth 77 = .ok (.getfield 26, 3) := by decide +kernel
theorem dX2_tellBoth_80 : decode cX2_tellBoth 80 = .ok (.aload_n 2, 1) := by decide +kernel
theorem dX2_tellBoth_81 : decode cX2_tellBoth 81 = .ok (.getfield 98, 3) := by decide +kernel
theorem dX2_tellBoth_84 : decode cX2_tellBoth 84 = .ok (.iload 4, 2) := by decide +kernel
theorem dX2_tellBoth_86 : decode cX2_tellBoth 86 = .ok (.iaload, 1) := by decide +kernel
theorem dX2_tellBoth_87 : decode cX2_tellBoth 87 = .ok (.i2l, 1) := by decide +kernel
theorem dX2_tellBoth_88 : decode cX2_tellBoth 88 = .ok (.invokevirtual 100, 3) := by decide +kernel
theorem dX2_tellBoth_91 : decode cX2_tellBoth 91 = .ok (.aload_n 0, 1) := by decide +kernel
theorem dX2_tellBoth_92 : decode cX2_tellBoth 92 = .ok (.getfield 26, 3) := by decide +kernel
theorem dX2_tellBoth_95 : decode cX2_tellBoth 95 = .ok (.aload_n 2, 1) := by decide +kernel
theorem dX2_tellBoth_96 : decode cX2_tellBoth 96 = .ok (.getfield 104, 3) := by decide +kernel
theorem dX2_tellBoth_99 : decode cX2_tellBoth 99 = .ok (.iload 4, 2) := by decide +kernel
theorem dX2_tellBoth_101 : decode cX2_tellBoth 101 = .ok (.iaload, 1) := by decide +kernel
theorem dX2_tellBoth_102 : decode cX2_tellBoth 102 = .ok (.i2l, 1) := by decide +kernel
theorem dX2_tellBoth_103 : decode cX2_tellBoth 103 = .ok (.invokevirtual 100, 3) := by decide +kernel
theorem dX2_tellBoth_106 : decode cX2_tellBoth 106 = .ok (.aload_n 0, 1) := by decide +kernel
theorem dX2_tellBoth_107 : decode cX2_tellBoth 107 = .ok (.getfield 26, 3) := by decide +kernel
theorem dX2_tellBoth_110 : decode cX2_tellBoth 110 = .ok (.aload_n 3, 1) := by decide +kernel
theorem dX2_tellBoth_111 : decode cX2_tellBoth 111 = .ok (.getfield 98, 3) := by decide +kernel
theorem dX2_tellBoth_114 : decode cX2_tellBoth 114 = .ok (.iload 4, 2) := by decide +kernel
theorem dX2_tellBoth_116 : decode cX2_tellBoth 116 = .ok (.iaload, 1) := by decide +kernel
theorem dX2_tellBoth_117 : decode cX2_tellBoth 117 = .ok (.i2l, 1) := by decide +kernel
theorem dX2_tellBoth_118 : decode cX2_tellBoth 118 = .ok (.invokevirtual 100, 3) := by decide +kernel
theorem dX2_tellBoth_121 : decode cX2_tellBoth 121 = .ok (.aload_n 0, 1) := by decide +kernel
theorem dX2_tellBoth_122 : decode cX2_tellBoth 122 = .ok (.getfield 26, 3) := by decide +kernel
theorem dX2_tellBoth_125 : decode cX2_tellBoth 125 = .ok (.aload_n 3, 1) := by decide +kernel
theorem dX2_tellBoth_126 : decode cX2_tellBoth 126 = .ok (.getfield 104, 3) := by decide +kernel
theorem dX2_tellBoth_129 : decode cX2_tellBoth 129 = .ok (.iload 4, 2) := by decide +kernel
theorem dX2_tellBoth_131 : decode cX2_tellBoth 131 = .ok (.iaload, 1) := by decide +kernel
theorem dX2_tellBoth_132 : decode cX2_tellBoth 132 = .ok (.i2l, 1) := by decide +kernel
theorem dX2_tellBoth_133 : decode cX2_tellBoth 133 = .ok (.invokevirtual 100, 3) := by decide +kernel
theorem dX2_tellBoth_136 : decode cX2_tellBoth 136 = .ok (.iinc 4 1, 3) := by decide +kernel
theorem dX2_tellBoth_139 : decode cX2_tellBoth 139 = .ok (.goto (-69), 3) := by decide +kernel
theorem dX2_tellBoth_142 : decode cX2_tellBoth 142 = .ok (.aload_n 2, 1) := by decide +kernel
theorem dX2_tellBoth_143 : decode cX2_tellBoth 143 = .ok (.invokevirtual 106, 3) := by decide +kernel
theorem dX2_tellBoth_146 : decode cX2_tellBoth 146 = .ok (.aload_n 3, 1) := by decide +kernel
theorem dX2_tellBoth_147 : decode cX2_tellBoth 147 = .ok (.invokevirtual 110, 3) := by decide +kernel
theorem dX2_tellBoth_150 : decode cX2_tellBoth 150 = .ok (.lmul, 1) := by decide +kernel
theorem dX2_tellBoth_151 : decode cX2_tellBoth 151 = .ok (.aload_n 3, 1) := by decide +kernel
theorem dX2_tellBoth_152 : decode cX2_tellBoth 152 = .ok (.invokevirtual 106, 3) := by decide +kernel
theorem dX2_tellBoth_155 : decode cX2_tellBoth 155 = .ok (.aload_n 2, 1) := by decide +kernel
theorem dX2_tellBoth_156 : decode cX2_tellBoth 156 = .ok (.invokevirtual 110, 3) := by decide +kernel
theorem dX2_tellBoth_159 : decode cX2_tellBoth 159 = .ok (.lmul, 1) := by decide +kernel
theorem dX2_tellBoth_160 : decode cX2_tellBoth 160 = .ok (.lsub, 1) := by decide +kernel
theorem dX2_tellBoth_161 : decode cX2_tellBoth 161 = .ok (.lstore 4, 2) := by decide +kernel
theorem dX2_tellBoth_163 : decode cX2_tellBoth 163 = .ok (.aload_n 0, 1) := by decide +kernel
theorem dX2_tellBoth_164 : decode cX2_tellBoth 164 = .ok (.getfield 26, 3) := by decide +kernel
theorem dX2_tellBoth_167 : decode cX2_tellBoth 167 = .ok (.lload 4, 2) := by decide +kernel
theorem dX2_tellBoth_169 : decode cX2_tellBoth 169 = .ok (.aload_n 2, 1) := by decide +kernel
theorem dX2_tellBoth_170 : decode cX2_tellBoth 170 = .ok (.invokevirtual 110, 3) := by decide +kernel
theorem dX2_tellBoth_173 : decode cX2_tellBoth 173 = .ok (.aload_n 3, 1) := by decide +kernel
theorem dX2_tellBoth_174 : decode cX2_tellBoth 174 = .ok (.invokevirtual 110, 3) := by decide +kernel
theorem dX2_tellBoth_177 : decode cX2_tellBoth 177 = .ok (.lmul, 1) := by decide +kernel
theorem dX2_tellBoth_178 : decode cX2_tellBoth 178 = .ok (.invokevirtual 113, 3) := by decide +kernel
theorem dX2_tellBoth_181 : decode cX2_tellBoth 181 = .ok (.lload 4, 2) := by decide +kernel
theorem dX2_tellBoth_183 : decode cX2_tellBoth 183 = .ok (.lconst 0, 1) := by decide +kernel
theorem dX2_tellBoth_184 : decode cX2_tellBoth 184 = .ok (.lcmp, 1) := by decide +kernel
theorem dX2_tellBoth_185 : decode cX2_tellBoth 185 = .ok (.ifCond .le 7, 3) := by decide +kernel
theorem dX2_tellBoth_188 : decode cX2_tellBoth 188 = .ok (.iconst 1, 1) := by decide +kernel
theorem dX2_tellBoth_189 : decode cX2_tellBoth 189 = .ok (.goto 15, 3) := by decide +kernel
theorem dX2_tellBoth_192 : decode cX2_tellBoth 192 = .ok (.lload 4, 2) := by decide +kernel
theorem dX2_tellBoth_194 : decode cX2_tellBoth 194 = .ok (.lconst 0, 1) := by decide +kernel
theorem dX2_tellBoth_195 : decode cX2_tellBoth 195 = .ok (.lcmp, 1) := by decide +kernel
theorem dX2_tellBoth_196 : decode cX2_tellBoth 196 = .ok (.ifCond .ge 7, 3) := by decide +kernel
theorem dX2_tellBoth_199 : decode cX2_tellBoth 199 = .ok (.iconst 2, 1) := by decide +kernel
theorem dX2_tellBoth_200 : decode cX2_tellBoth 200 = .ok (.goto 4, 3) := by decide +kernel
theorem dX2_tellBoth_203 : decode cX2_tellBoth 203 = .ok (.iconst 0, 1) := by decide +kernel
theorem dX2_tellBoth_204 : decode cX2_tellBoth 204 = .ok (.ireturn, 1) := by decide +kernel
theorem dX2_tellExplained_0 : decode cX2_tellExplained 0 = .ok (.iload_n 1, 1) := by decide +kernel
theorem dX2_tellExplained_1 : decode cX2_tellExplained 1 = .ok (.iconst 0, 1) := by decide +kernel
theorem dX2_tellExplained_2 : decode cX2_tellExplained 2 = .ok (.iconst 3, 1) := by decide +kernel
theorem dX2_tellExplained_3 : decode cX2_tellExplained 3 = .ok (.invokestatic 83, 3) := by decide +kernel
theorem dX2_tellExplained_6 : decode cX2_tellExplained 6 = .ok (.ifCond .ne 5, 3) := by decide +kernel
theorem dX2_tellExplained_9 : decode cX2_tellExplained 9 = .ok (.iconst (-1), 1) := by decide +kernel
theorem dX2_tellExplained_10 : decode cX2_tellExplained 10 = .ok (.ireturn, 1) := by decide +kernel
theorem dX2_tellExplained_11 : decode cX2_tellExplained 11 = .ok (.aload_n 0, 1) := by decide +kernel
theorem dX2_tellExplained_12 : decode cX2_tellExplained 12 = .ok (.iload_n 1, 1) := by decide +kernel
theorem dX2_tellExplained_13 : decode cX2_tellExplained 13 = .ok (.invokevirtual 117, 3) := by decide +kernel
theorem dX2_tellExplained_16 : decode cX2_tellExplained 16 = .ok (.lconst 1, 1) := by decide +kernel
theorem dX2_tellExplained_17 : decode cX2_tellExplained 17 = .ok (.lstore_n 2, 1) := by decide +kernel
theorem dX2_tellExplained_18 : decode cX2_tellExplained 18 = .ok (.iconst 0, 1) := by decide +kernel
theorem dX2_tellExplained_19 : decode cX2_tellExplained 19 = .ok (.istore 4, 2) := by decide +kernel
theorem dX2_tellExplained_21 : decode cX2_tellExplained 21 = .ok (.iconst 0, 1) := by decide +kernel
theorem dX2_tellExplained_22 : decode cX2_tellExplained 22 = .ok (.istore 5, 2) := by decide +kernel
theorem dX2_tellExplained_24 : decode cX2_tellExplained 24 = .ok (.iload 5, 2) := by decide +kernel
theorem dX2_tellExplained_26 : decode cX2_tellExplained 26 = .ok (.bipush 10, 2) := by decide +kernel
theorem dX2_tellExplained_28 : decode cX2_tellExplained 28 = .ok (.if_icmp .ge 73, 3) := by decide +kernel
theorem dX2_tellExplained_31 : decode cX2_tellExplained 31 = .ok (.aload_n 0, 1) := by decide +kernel
theorem dX2_tellExplained_32 : decode cX2_tellExplained 32 = .ok (.getfield 18, 3) := by decide +kernel
theorem dX2_tellExplained_35 : decode cX2_tellExplained 35 = .ok (.iload 5, 2) := by decide +kernel
theorem dX2_tellExplained_37 : decode cX2_tellExplained 37 = .ok (.aaload, 1) := by decide +kernel
theorem dX2_tellExplained_38 : decode cX2_tellExplained 38 = .ok (.invokevirtual 91, 3) := by decide +kernel
theorem dX2_tellExplained_41 : decode cX2_tellExplained 41 = .ok (.ifCond .eq 54, 3) := by decide +kernel
theorem dX2_tellExplained_44 : decode cX2_tellExplained 44 = .ok (.lload_n 2, 1) := by decide +kernel
theorem dX2_tellExplained_45 : decode cX2_tellExplained 45 = .ok (.aload_n 0, 1) := by decide +kernel
theorem dX2_tellExplained_46 : decode cX2_tellExplained 46 = .ok (.getfield 18, 3) := by decide +kernel
theorem dX2_tellExplained_49 : decode cX2_tellExplained 49 = .ok (.iload 5, 2) := by decide +kernel
theorem dX2_tellExplained_51 : decode cX2_tellExplained 51 = .ok (.aaload, 1) := by decide +kernel
theorem dX2_tellExplained_52 : decode cX2_tellExplained 52 = .ok (.getfield 104, 3) := by decide +kernel
theorem dX2_tellExplained_55 : decode cX2_tellExplained 55 = .ok (.iconst 0, 1) := by decide +kernel
theorem dX2_tellExplained_56 : decode cX2_tellExplained 56 = .ok (.iaload, 1) := by decide +kernel
theorem dX2_tellExplained_57 : decode cX2_tellExplained 57 = .ok (.i2l, 1) := by decide +kernel
theorem dX2_tellExplained_58 : decode cX2_tellExplained 58 = .ok (.invokestatic 121, 3) := by decide +kernel
theorem dX2_tellExplained_61 : decode cX2_tellExplained 61 = .ok (.lstore_n 2, 1) := by decide +kernel
theorem dX2_tellExplained_62 : decode cX2_tellExplained 62 = .ok (.lload_n 2, 1) := by decide +kernel
theorem dX2_tellExplained_63 : decode cX2_tellExplained 63 = .ok (.aload_n 0, 1) := by decide +kernel
theorem dX2_tellExplained_64 : decode cX2_tellExplained 64 = .ok (.getfield 18, 3) := by decide +kernel
theorem dX2_tellExplained_67 : decode cX2_tellExplained 67 = .ok (.iload 5, 2) := by decide +kernel
theorem dX2_tellExplained_69 : decode cX2_tellExplained 69 = .ok (.aaload, 1) := by decide +kernel
theorem dX2_tellExplained_70 : decode cX2_tellExplained 70 = .ok (.getfield 104, 3) := by decide +kernel
theorem dX2_tellExplained_73 : decode cX2_tellExplained 73 = .ok (.iconst 1, 1) := by decide +kernel
theorem dX2_tellExplained_74 : decode cX2_tellExplained 74 = .ok (.iaload, 1) := by decide +kernel
theorem dX2_tellExplained_75 : decode cX2_tellExplained 75 = .ok (.i2l, 1) := by decide +kernel
theorem dX2_tellExplained_76 : decode cX2_tellExplained 76 = .ok (.invokestatic 121, 3) := by decide +kernel
theorem dX2_tellExplained_79 : decode cX2_tellExplained 79 = .ok (.lstore_n 2, 1) := by decide +kernel
theorem dX2_tellExplained_80 : decode cX2_tellExplained 80 = .ok (.iload 4, 2) := by decide +kernel
theorem dX2_tellExplained_82 : decode cX2_tellExplained 82 = .ok (.aload_n 0, 1) := by decide +kernel
theorem dX2_tellExplained_83 : decode cX2_tellExplained 83 = .ok (.getfield 18, 3) := by decide +kernel
theorem dX2_tellExplained_86 : decode cX2_tellExplained 86 = .ok (.iload 5, 2) := by decide +kernel
theorem dX2_tellExplained_88 : decode cX2_tellExplained 88 = .ok (.aaload, 1) := by decide +kernel
theorem dX2_tellExplained_89 : decode cX2_tellExplained 89 = .ok (.invokevirtual 125, 3) := by decide +kernel
theorem dX2_tellExplained_92 : decode cX2_tellExplained 92 = .ok (.iadd, 1) := by decide +kernel
theorem dX2_tellExplained_93 : decode cX2_tellExplained 93 = .ok (.istore 4, 2) := by decide +kernel
theorem dX2_tellExplained_95 : decode cX2_tellExplained 95 = .ok (.iinc 5 1, 3) := by decide +kernel
theorem dX2_tellExplained_98 : decode cX2_tellExplained 98 = .ok (.goto (-74), 3) := by decide +kernel
theorem dX2_tellExplained_101 : decode cX2_tellExplained 101 = .ok (.iload 4, 2) := by decide +kernel
theorem dX2_tellExplained_103 : decode cX2_tellExplained 103 = .ok (.ifCond .ne 6, 3) := by decide +kernel
theorem dX2_tellExplained_106 : decode cX2_tellExplained 106 = .ok (.bipush (-2), 2) := by decide +kernel
theorem dX2_tellExplained_108 : decode cX2_tellExplained 108 = .ok (.ireturn, 1) := by decide +kernel
theorem dX2_tellExplained_109 : decode cX2_tellExplained 109 = .ok (.lconst 0, 1) := by decide +kernel
theorem dX2_tellExplained_110 : decode cX2_tellExplained 110 = .ok (.lstore 5, 2) := by decide +kernel
theorem dX2_tellExplained_112 : decode cX2_tellExplained 112 = .ok (.iconst 0, 1) := by decide +kernel
theorem dX2_tellExplained_113 : decode cX2_tellExplained 113 = .ok (.istore 7, 2) := by decide +kernel
theorem dX2_tellExplained_115 : decode cX2_tellExplained 115 = .ok (.iload 7, 2) := by decide +kernel
theorem dX2_tellExplained_117 : decode cX2_tellExplained 117 = .ok (.bipush 10, 2) := by decide +kernel
theorem dX2_tellExplained_119 : decode cX2_tellExplained 119 = .ok (.if_icmp .ge 37, 3) := by decide +kernel
theorem dX2_tellExplained_122 : decode cX2_tellExplained 122 = .ok (.lload 5, 2) := by decide +kernel
theorem dX2_tellExplained_124 : decode cX2_tellExplained 124 = .ok (.aload_n 0, 1) := by decide +kernel
theorem dX2_tellExplained_125 : decode cX2_tellExplained 125 = .ok (.getfield 18, 3) := by decide +kernel
theorem dX2_tellExplained_128 : decode cX2_tellExplained 128 = .ok (.iload 7, 2) := by decide +kernel
theorem dX2_tellExplained_130 : decode cX2_tellExplained 130 = .ok (.aaload, 1) := by decide +kernel
theorem dX2_tellExplained_131 : decode cX2_tellExplained 131 = .ok (.lload_n 2, 1) := by decide +kernel
theorem dX2_tellExplained_132 : decode cX2_tellExplained 132 = .ok (.invokevirtual 128, 3) := by decide +kernel
theorem dX2_tellExplained_135 : decode cX2_tellExplained 135 = .ok (.aload_n 0, 1) := by decide +kernel
theorem dX2_tellExplained_136 : decode cX2_tellExplained 136 = .ok (.getfield 18, 3) := by decide +kernel
theorem dX2_tellExplained_139 : decode cX2_tellExplained 139 = .ok (.iload 7, 2) := by decide +kernel
theorem dX2_tellExplained_141 : decode cX2_tellExplained 141 = .ok (.aaload, 1) := by decide +kernel
theorem dX2_tellExplained_142 : decode cX2_tellExplained 142 = .ok (.invokevirtual 125, 3) := by decide +kernel
theorem dX2_tellExplained_145 : decode cX2_tellExplained 145 = .ok (.i2l, 1) := by decide +kernel
theorem dX2_tellExplained_146 : decode cX2_tellExplained 146 = .ok (.lmul, 1) := by decide +kernel
theorem dX2_tellExplained_147 : decode cX2_tellExplained 147 = .ok (.ladd, 1) := by decide +kernel
theorem dX2_tellExplained_148 : decode cX2_tellExplained 148 = .ok (.lstore 5, 2) := by decide +kernel
theorem dX2_tellExplained_150 : decode cX2_tellExplained 150 = .ok (.iinc 7 1, 3) := by decide +kernel
theorem dX2_tellExplained_153 : decode cX2_tellExplained 153 = .ok (.goto (-38), 3) := by decide +kernel
theorem dX2_tellExplained_156 : decode cX2_tellExplained 156 = .ok (.lload_n 2, 1) := by decide +kernel
theorem dX2_tellExplained_157 : decode cX2_tellExplained 157 = .ok (.iload 4, 2) := by decide +kernel
theorem dX2_tellExplained_159 : decode cX2_tellExplained 159 = .ok (.i2l, 1) := by decide +kernel
theorem dX2_tellExplained_160 : decode cX2_tellExplained 160 = .ok (.lmul, 1) := by decide +kernel
theorem dX2_tellExplained_161 : decode cX2_tellExplained 161 = .ok (.lstore 7, 2) := by decide +kernel
theorem dX2_tellExplained_163 : decode cX2_tellExplained 163 = .ok (.aload_n 0, 1) := by decide +kernel
theorem dX2_tellExplained_164 : decode cX2_tellExplained 164 = .ok (.getfield 26, 3) := by decide +kernel
theorem dX2_tellExplained_167 : decode cX2_tellExplained 167 = .ok (.invokevirtual 95, 3) := by decide +kernel
theorem dX2_tellExplained_170 : decode cX2_tellExplained 170 = .ok (.aload_n 0, 1) := by decide +kernel
theorem dX2_tellExplained_171 : decode cX2_tellExplained 171 = .ok (.getfield 26, 3) := by decide +kernel
theorem dX2_tellExplained_174 : decode cX2_tellExplained 174 = .ok (.lload 5, 2) := by decide +kernel
theorem dX2_tellExplained_176 : decode cX2_tellExplained 176 = .ok (.lload 7, 2) := by decide +kernel
theorem dX2_tellExplained_178 : decode cX2_tellExplained 178 = .ok (.invokevirtual 113, 3) := by decide +kernel
theorem dX2_tellExplained_181 : decode cX2_tellExplained 181 = .ok (.aload_n 0, 1) := by decide +kernel
theorem dX2_tellExplained_182 : decode cX2_tellExplained 182 = .ok (.getfield 26, 3) := by decide +kernel
theorem dX2_tellExplained_185 : decode cX2_tellExplained 185 = .ok (.aload_n 0, 1) := by decide +kernel
theorem dX2_tellExplained_186 : decode cX2_tellExplained 186 = .ok (.getfield 12, 3) := by decide +kernel
theorem dX2_tellExplained_189 : decode cX2_tellExplained 189 = .ok (.invokevirtual 106, 3) := by decide +kernel
theorem dX2_tellExplained_192 : decode cX2_tellExplained 192 = .ok (.lload 7, 2) := by decide +kernel
theorem dX2_tellExplained_194 : decode cX2_tellExplained 194 = .ok (.lmul, 1) := by decide +kernel
theorem dX2_tellExplained_195 : decode cX2_tellExplained 195 = .ok (.lload 5, 2) := by decide +kernel
theorem dX2_tellExplained_197 : decode cX2_tellExplained 197 = .ok (.aload_n 0, 1) := by decide +kernel
theorem dX2_tellExplained_198 : decode cX2_tellExplained 198 = .ok (.getfield 12, 3) := by decide +kernel
theorem dX2_tellExplained_201 : decode cX2_tellExplained 201 = .ok (.invokevirtual 110, 3) := by decide +kernel
theorem dX2_tellExplained_204 : decode cX2_tellExplained 204 = .ok (.lmul, 1) := by decide +kernel
theorem dX2_tellExplained_205 : decode cX2_tellExplained 205 = .ok (.lsub, 1) := by decide +kernel
theorem dX2_tellExplained_206 : decode cX2_tellExplained 206 = .ok (.aload_n 0, 1) := by decide +kernel
theorem dX2_tellExplained_207 : decode cX2_tellExplained 207 = .ok (.getfield 12, 3) := by decide +kernel
theorem dX2_tellExplained_210 : decode cX2_tellExplained 210 = .ok (.invokevirtual 110, 3) := by decide +kernel
theorem dX2_tellExplained_213 : decode cX2_tellExplained 213 = .ok (.lload 7, 2) := by decide +kernel
theorem dX2_tellExplained_215 : decode cX2_tellExplained 215 = .ok (.lmul, 1) := by decide +kernel
theorem dX2_tellExplained_216 : decode cX2_tellExplained 216 = .ok (.invokevirtual 113, 3) := by decide +kernel
theorem dX2_tellExplained_219 : decode cX2_tellExplained 219 = .ok (.iconst 0, 1) := by decide +kernel
theorem dX2_tellExplained_220 : decode cX2_tellExplained 220 = .ok (.ireturn, 1) := by decide +kernel
theorem dX2_tellJoined_0 : decode cX2_tellJoined 0 = .ok (.iload_n 1, 1) := by decide +kernel
theorem dX2_tellJoined_1 : decode cX2_tellJoined 1 = .ok (.iconst 0, 1) := by decide +kernel
theorem dX2_tellJoined_2 : decode cX2_tellJoined 2 = .ok (.iconst 2, 1) := by decide +kernel
theorem dX2_tellJoined_3 : decode cX2_tellJoined 3 = .ok (.invokestatic 83, 3) := by decide +kernel
theorem dX2_tellJoined_6 : decode cX2_tellJoined 6 = .ok (.ifCond .ne 5, 3) := by decide +kernel
theorem dX2_tellJoined_9 : decode cX2_tellJoined 9 = .ok (.iconst (-1), 1) := by decide +kernel
theorem dX2_tellJoined_10 : decode cX2_tellJoined 10 = .ok (.ireturn, 1) := by decide +kernel
theorem dX2_tellJoined_11 : decode cX2_tellJoined 11 = .ok (.aload_n 0, 1) := by decide +kernel
theorem dX2_tellJoined_12 : decode cX2_tellJoined 12 = .ok (.iload_n 1, 1) := by decide +kernel
theorem dX2_tellJoined_13 : decode cX2_tellJoined 13 = .ok (.ifCond .ne 7, 3) := by decide +kernel
theorem dX2_tellJoined_16 : decode cX2_tellJoined 16 = .ok (.iconst 1, 1) := by decide +kernel
theorem dX2_tellJoined_17 : decode cX2_tellJoined 17 = .ok (.goto 13, 3) := by decide +kernel
theorem dX2_tellJoined_20 : decode cX2_tellJoined 20 = .ok (.iload_n 1, 1) := by decide +kernel
theorem dX2_tellJoined_21 : decode cX2_tellJoined 21 = .ok (.iconst 1, 1) := by decide +kernel
theorem dX2_tellJoined_22 : decode cX2_tellJoined 22 = .ok (.if_icmp .ne 7, 3) := by decide +kernel
theorem dX2_tellJoined_25 : decode cX2_tellJoined 25 = .ok (.iconst 2, 1) := by decide +kernel
theorem dX2_tellJoined_26 : decode cX2_tellJoined 26 = .ok (.goto 4, 3) := by decide +kernel
theorem dX2_tellJoined_29 : decode cX2_tellJoined 29 = .ok (.iconst 0, 1) := by decide +kernel
theorem dX2_tellJoined_30 : decode cX2_tellJoined 30 = .ok (.invokevirtual 117, 3) := by decide +kernel
theorem dX2_tellJoined_33 : decode cX2_tellJoined 33 = .ok (.lconst 1, 1) := by decide +kernel
theorem dX2_tellJoined_34 : decode cX2_tellJoined 34 = .ok (.lstore_n 2, 1) := by decide +kernel
theorem dX2_tellJoined_35 : decode cX2_tellJoined 35 = .ok (.iconst 0, 1) := by decide +kernel
theorem dX2_tellJoined_36 : decode cX2_tellJoined 36 = .ok (.istore 4, 2) := by decide +kernel
theorem dX2_tellJoined_38 : decode cX2_tellJoined 38 = .ok (.iload 4, 2) := by decide +kernel
theorem dX2_tellJoined_40 : decode cX2_tellJoined 40 = .ok (.bipush 10, 2) := by decide +kernel
theorem dX2_tellJoined_42 : decode cX2_tellJoined 42 = .ok (.if_icmp .ge 38, 3) := by decide +kernel
theorem dX2_tellJoined_45 : decode cX2_tellJoined 45 = .ok (.aload_n 0, 1) := by decide +kernel
theorem dX2_tellJoined_46 : decode cX2_tellJoined 46 = .ok (.getfield 18, 3) := by decide +kernel
theorem dX2_tellJoined_49 : decode cX2_tellJoined 49 = .ok (.iload 4, 2) := by decide +kernel
theorem dX2_tellJoined_51 : decode cX2_tellJoined 51 = .ok (.aaload, 1) := by decide +kernel
theorem dX2_tellJoined_52 : decode cX2_tellJoined 52 = .ok (.invokevirtual 125, 3) := by decide +kernel
theorem dX2_tellJoined_55 : decode cX2_tellJoined 55 = .ok (.istore 5, 2) := by decide +kernel
theorem dX2_tellJoined_57 : decode cX2_tellJoined 57 = .ok (.iload 5, 2) := by decide +kernel
theorem dX2_tellJoined_59 : decode cX2_tellJoined 59 = .ok (.ifCond .le 13, 3) := by decide +kernel
theorem dX2_tellJoined_62 : decode cX2_tellJoined 62 = .ok (.lload_n 2, 1) := by decide +kernel
theorem dX2_tellJoined_63 : decode cX2_tellJoined 63 = .ok (.iload 5, 2) := by decide +kernel
theorem dX2_tellJoined_65 : decode cX2_tellJoined 65 = .ok (.i2l, 1) := by decide +kernel
theorem dX2_tellJoined_66 : decode cX2_tellJoined 66 = .ok (.invokestatic 121, 3) := by decide +kernel
theorem dX2_tellJoined_69 : decode cX2_tellJoined 69 = .ok (.goto 4, 3) := by decide +kernel
theorem dX2_tellJoined_72 : decode cX2_tellJoined 72 = .ok (.lload_n 2, 1) := by decide +kernel
theorem dX2_tellJoined_73 : decode cX2_tellJoined 73 = .ok (.lstore_n 2, 1) := by decide +kernel
theorem dX2_tellJoined_74 : decode cX2_tellJoined 74 = .ok (.iinc 4 1, 3) := by decide +kernel
theorem dX2_tellJoined_77 : decode cX2_tellJoined 77 = .ok (.goto (-39), 3) := by decide +kernel
theorem dX2_tellJoined_80 : decode cX2_tellJoined 80 = .ok (.lconst 0, 1) := by decide +kernel
theorem dX2_tellJoined_81 : decode cX2_tellJoined 81 = .ok (.lstore 4, 2) := by decide +kernel
theorem dX2_tellJoined_83 : decode cX2_tellJoined 83 = .ok (.lconst 0, 1) := by decide +kernel
theorem dX2_tellJoined_84 : decode cX2_tellJoined 84 = .ok (.lstore 6, 2) := by decide +kernel
theorem dX2_tellJoined_86 : decode cX2_tellJoined 86 = .ok (.iconst 0, 1) := by decide +kernel
theorem dX2_tellJoined_87 : decode cX2_tellJoined 87 = .ok (.istore 8, 2) := by decide +kernel
theorem dX2_tellJoined_89 : decode cX2_tellJoined 89 = .ok (.iload 8, 2) := by decide +kernel
theorem dX2_tellJoined_91 : decode cX2_tellJoined 91 = .ok (.bipush 10, 2) := by decide +kernel
theorem dX2_tellJoined_93 : decode cX2_tellJoined 93 = .ok (.if_icmp .ge 106, 3) := by decide +kernel
theorem dX2_tellJoined_96 : decode cX2_tellJoined 96 = .ok (.aload_n 0, 1) := by decide +kernel
theorem dX2_tellJoined_97 : decode cX2_tellJoined 97 = .ok (.getfield 18, 3) := by decide +kernel
theorem dX2_tellJoined_100 : decode cX2_tellJoined 100 = .ok (.iload 8, 2) := by decide +kernel
theorem dX2_tellJoined_102 : decode cX2_tellJoined 102 = .ok (.aaload, 1) := by decide +kernel
theorem dX2_tellJoined_103 : decode cX2_tellJoined 103 = .ok (.astore 9, 2) := by decide +kernel
theorem dX2_tellJoined_105 : decode cX2_tellJoined 105 = .ok (.aload 9, 2) := by decide +kernel
theorem dX2_tellJoined_107 : decode cX2_tellJoined 107 = .ok (.invokevirtual 125, 3) := by decide +kernel
theorem dX2_tellJoined_110 : decode cX2_tellJoined 110 = .ok (.ifCond .le 14, 3) := by decide +kernel
theorem dX2_tellJoined_113 : decode cX2_tellJoined 113 = .ok (.lload_n 2, 1) := by decide +kernel
theorem dX2_tellJoined_114 : decode cX2_tellJoined 114 = .ok (.aload 9, 2) := by decide +kernel
theorem dX2_tellJoined_116 : decode cX2_tellJoined 116 = .ok (.invokevirtual 125, 3) := by decide +kernel
theorem dX2_tellJoined_119 : decode cX2_tellJoined 119 = .ok (.i2l, 1) := by decide +kernel
theorem dX2_tellJoined_120 : decode cX2_tellJoined 120 = .ok (.ldiv, 1) := by decide +kernel
theorem dX2_tellJoined_121 : decode cX2_tellJoined 121 = .ok (.goto 4, 3) := by decide +kernel
theorem dX2_tellJoined_124 : decode cX2_tellJoined 124 = .ok (.lconst 0, 1) := by decide +kernel
theorem dX2_tellJoined_125 : decode cX2_tellJoined 125 = .ok (.lstore 10, 2) := by decide +kernel
theorem dX2_tellJoined_127 : decode cX2_tellJoined 127 = .ok (.lload 4, 2) := by decide +kernel
theorem dX2_tellJoined_129 : decode cX2_tellJoined 129 = .ok (.lload 10, 2) := by decide +kernel
theorem dX2_tellJoined_131 : decode cX2_tellJoined 131 = .ok (.aload 9, 2) := by decide +kernel
theorem dX2_tellJoined_133 : decode cX2_tellJoined 133 = .ok (.getfield 98, 3) := by decide +kernel
theorem dX2_tellJoined_136 : decode cX2_tellJoined 136 = .ok (.iconst 0, 1) := by decide +kernel
theorem dX2_tellJoined_137 : decode cX2_tellJoined 137 = .ok (.iaload, 1) := by decide +kernel
theorem dX2_tellJoined_138 : decode cX2_tellJoined 138 = .ok (.i2l, 1) := by decide +kernel
theorem dX2_tellJoined_139 : decode cX2_tellJoined 139 = .ok (.lmul, 1) := by decide +kernel
theorem dX2_tellJoined_140 : decode cX2_tellJoined 140 = .ok (.aload 9, 2) := by decide +kernel
theorem dX2_tellJoined_142 : decode cX2_tellJoined 142 = .ok (.getfield 104, 3) := by decide +kernel
theorem dX2_tellJoined_145 : decode cX2_tellJoined 145 = .ok (.iconst 1, 1) := by decide +kernel
theorem dX2_tellJoined_146 : decode cX2_tellJoined 146 = .ok (.iaload, 1) := by decide +kernel
theorem dX2_tellJoined_147 : decode cX2_tellJoined 147 = .ok (.aload 9, 2) := by decide +kernel
theorem dX2_tellJoined_149 : decode cX2_tellJoined 149 = .ok (.getfield 98, 3) := by decide +kernel
theorem dX2_tellJoined_152 : decode cX2_tellJoined 152 = .ok (.iconst 1, 1) := by decide +kernel
theorem dX2_tellJoined_153 : decode cX2_tellJoined 153 = .ok (.iaload, 1) := by decide +kernel
theorem dX2_tellJoined_154 : decode cX2_tellJoined 154 = .ok (.isub, 1) := by decide +kernel
theorem dX2_tellJoined_155 : decode cX2_tellJoined 155 = .ok (.i2l, 1) := by decide +kernel
theorem dX2_tellJoined_156 : decode cX2_tellJoined 156 = .ok (.lmul, 1) := by decide +kernel
theorem dX2_tellJoined_157 : decode cX2_tellJoined 157 = .ok (.ladd, 1) := by decide +kernel
theorem dX2_tellJoined_158 : decode cX2_tellJoined 158 = .ok (.lstore 4, 2) := by decide +kernel
theorem dX2_tellJoined_160 : decode cX2_tellJoined 160 = .ok (.lload 6, 2) := by decide +kernel
theorem dX2_tellJoined_162 : decode cX2_tellJoined 162 = .ok (.lload 10, 2) := by decide +kernel
theorem dX2_tellJoined_164 : decode cX2_tellJoined 164 = .ok (.aload 9, 2) := by decide +kernel
theorem dX2_tellJoined_166 : decode cX2_tellJoined 166 = .ok (.getfield 104, 3) := by decide +kernel
theorem dX2_tellJoined_169 : decode cX2_tellJoined 169 = .ok (.iconst 0, 1) := by decide +kernel
theorem dX2_tellJoined_170 : decode cX2_tellJoined 170 = .ok (.iaload, 1) := by decide +kernel
theorem dX2_tellJoined_171 : decode cX2_tellJoined 171 = .ok (.aload 9, 2) := by decide +kernel
theorem dX2_tellJoined_173 : decode cX2_tellJoined 173 = .ok (.getfield 98, 3) := by decide +kernel
theorem dX2_tellJoined_176 : decode cX2_tellJoined 176 = .ok (.iconst 0, 1) := by decide +kernel
theorem dX2_tellJoined_177 : decode cX2_tellJoined 177 = .ok (.iaload, 1) := by decide +kernel
theorem dX2_tellJoined_178 : decode cX2_tellJoined 178 = .ok (.isub, 1) := by decide +kernel
theorem dX2_tellJoined_179 : decode cX2_tellJoined 179 = .ok (.i2l, 1) := by decide +kernel
theorem dX2_tellJoined_180 : decode cX2_tellJoined 180 = .ok (.lmul, 1) := by decide +kernel
theorem dX2_tellJoined_181 : decode cX2_tellJoined 181 = .ok (.aload 9, 2) := by decide +kernel
theorem dX2_tellJoined_183 : decode cX2_tellJoined 183 = .ok (.getfield 98, 3) := by decide +kernel
theorem dX2_tellJoined_186 : decode cX2_tellJoined 186 = .ok (.iconst 1, 1) := by decide +kernel
theorem dX2_tellJoined_187 : decode cX2_tellJoined 187 = .ok (.iaload, 1) := by decide +kernel
theorem dX2_tellJoined_188 : decode cX2_tellJoined 188 = .ok (.i2l, 1) := by decide +kernel
theorem dX2_tellJoined_189 : decode cX2_tellJoined 189 = .ok (.lmul, 1) := by decide +kernel
theorem dX2_tellJoined_190 : decode cX2_tellJoined 190 = .ok (.ladd, 1) := by decide +kernel
theorem dX2_tellJoined_191 : decode cX2_tellJoined 191 = .ok (.lstore 6, 2) := by decide +kernel
theorem dX2_tellJoined_193 : decode cX2_tellJoined 193 = .ok (.iinc 8 1, 3) := by decide +kernel
theorem dX2_tellJoined_196 : decode cX2_tellJoined 196 = .ok (.goto (-107), 3) := by decide +kernel
theorem dX2_tellJoined_199 : decode cX2_tellJoined 199 = .ok (.lload 6, 2) := by decide +kernel
theorem dX2_tellJoined_201 : decode cX2_tellJoined 201 = .ok (.lconst 0, 1) := by decide +kernel
theorem dX2_tellJoined_202 : decode cX2_tellJoined 202 = .ok (.lcmp, 1) := by decide +kernel
theorem dX2_tellJoined_203 : decode cX2_tellJoined 203 = .ok (.ifCond .ne 6, 3) := by decide +kernel
theorem dX2_tellJoined_206 : decode cX2_tellJoined 206 = .ok (.bipush (-2), 2) := by decide +kernel
theorem dX2_tellJoined_208 : decode cX2_tellJoined 208 = .ok (.ireturn, 1) := by decide +kernel
theorem dX2_tellJoined_209 : decode cX2_tellJoined 209 = .ok (.aload_n 0, 1) := by decide +kernel
theorem dX2_tellJoined_210 : decode cX2_tellJoined 210 = .ok (.getfield 26, 3) := by decide +kernel
theorem dX2_tellJoined_213 : decode cX2_tellJoined 213 = .ok (.invokevirtual 95, 3) := by decide +kernel
theorem dX2_tellJoined_216 : decode cX2_tellJoined 216 = .ok (.aload_n 0, 1) := by decide +kernel
theorem dX2_tellJoined_217 : decode cX2_tellJoined 217 = .ok (.getfield 26, 3) := by decide +kernel
theorem dX2_tellJoined_220 : decode cX2_tellJoined 220 = .ok (.lload 4, 2) := by decide +kernel
theorem dX2_tellJoined_222 : decode cX2_tellJoined 222 = .ok (.lload 6, 2) := by decide +kernel
theorem dX2_tellJoined_224 : decode cX2_tellJoined 224 = .ok (.invokevirtual 113, 3) := by decide +kernel
theorem dX2_tellJoined_227 : decode cX2_tellJoined 227 = .ok (.iconst 0, 1) := by decide +kernel
theorem dX2_tellJoined_228 : decode cX2_tellJoined 228 = .ok (.ireturn, 1) := by decide +kernel
theorem dX2_tellBounds_0 : decode cX2_tellBounds 0 = .ok (.iload_n 1, 1) := by decide +kernel
theorem dX2_tellBounds_1 : decode cX2_tellBounds 1 = .ok (.iconst 0, 1) := by decide +kernel
theorem dX2_tellBounds_2 : decode cX2_tellBounds 2 = .ok (.iconst 1, 1) := by decide +kernel
theorem dX2_tellBounds_3 : decode cX2_tellBounds 3 = .ok (.invokestatic 83, 3) := by decide +kernel
theorem dX2_tellBounds_6 : decode cX2_tellBounds 6 = .ok (.ifCond .ne 5, 3) := by decide +kernel
theorem dX2_tellBounds_9 : decode cX2_tellBounds 9 = .ok (.iconst (-1), 1) := by decide +kernel
theorem dX2_tellBounds_10 : decode cX2_tellBounds 10 = .ok (.ireturn, 1) := by decide +kernel
theorem dX2_tellBounds_11 : decode cX2_tellBounds 11 = .ok (.iconst 0, 1) := by decide +kernel
theorem dX2_tellBounds_12 : decode cX2_tellBounds 12 = .ok (.istore_n 2, 1) := by decide +kernel
theorem dX2_tellBounds_13 : decode cX2_tellBounds 13 = .ok (.iconst 0, 1) := by decide +kernel
theorem dX2_tellBounds_14 : decode cX2_tellBounds 14 = .ok (.istore_n 3, 1) := by decide +kernel
theorem dX2_tellBounds_15 : decode cX2_tellBounds 15 = .ok (.iconst 0, 1) := by decide +kernel
theorem dX2_tellBounds_16 : decode cX2_tellBounds 16 = .ok (.istore 4, 2) := by decide +kernel
theorem dX2_tellBounds_18 : decode cX2_tellBounds 18 = .ok (.iconst 0, 1) := by decide +kernel
theorem dX2_tellBounds_19 : decode cX2_tellBounds 19 = .ok (.istore 5, 2) := by decide +kernel
theorem dX2_tellBounds_21 : decode cX2_tellBounds 21 = .ok (.iload 5, 2) := by decide +kernel
theorem dX2_tellBounds_23 : decode cX2_tellBounds 23 = .ok (.aload_n 0, 1) := by decide +kernel
theorem dX2_tellBounds_24 : decode cX2_tellBounds 24 = .ok (.getfield 22, 3) := by decide +kernel
theorem dX2_tellBounds_27 : decode cX2_tellBounds 27 = .ok (.getfield 54, 3) := by decide +kernel
theorem dX2_tellBounds_30 : decode cX2_tellBounds 30 = .ok (.if_icmp .ge 96, 3) := by decide +kernel
theorem dX2_tellBounds_33 : decode cX2_tellBounds 33 = .ok (.aload_n 0, 1) := by decide +kernel
theorem dX2_tellBounds_34 : decode cX2_tellBounds 34 = .ok (.getfield 22, 3) := by decide +kernel
theorem dX2_tellBounds_37 : decode cX2_tellBounds 37 = .ok (.getfield 57, 3) := by decide +kernel
theorem dX2_tellBounds_40 : decode cX2_tellBounds 40 = .ok (.iload 5, 2) := by decide +kernel
theorem dX2_tellBounds_42 : decode cX2_tellBounds 42 = .ok (.aaload, 1) := by decide +kernel
theorem dX2_tellBounds_43 : decode cX2_tellBounds 43 = .ok (.astore 6, 2) := by decide +kernel
theorem dX2_tellBounds_45 : decode cX2_tellBounds 45 = .ok (.aload 6, 2) := by decide +kernel
theorem dX2_tellBounds_47 : decode cX2_tellBounds 47 = .ok (.getfield 61, 3) := by decide +kernel
theorem dX2_tellBounds_50 : decode cX2_tellBounds 50 = .ok (.ifCond .eq 70, 3) := by decide +kernel
theorem dX2_tellBounds_53 : decode cX2_tellBounds 53 = .ok (.aload_n 0, 1) := by decide +kernel
theorem dX2_tellBounds_54 : decode cX2_tellBounds 54 = .ok (.getfield 22, 3) := by decide +kernel
theorem dX2_tellBounds_57 : decode cX2_tellBounds 57 = .ok (.aload 6, 2) := by decide +kernel
theorem dX2_tellBounds_59 : decode cX2_tellBounds 59 = .ok (.invokevirtual 65, 3) := by decide +kernel
theorem dX2_tellBounds_62 : decode cX2_tellBounds 62 = .ok (.iload_n 1, 1) := by decide +kernel
theorem dX2_tellBounds_63 : decode cX2_tellBounds 63 = .ok (.if_icmp .ne 57, 3) := by decide +kernel
theorem dX2_tellBounds_66 : decode cX2_tellBounds 66 = .ok (.iinc 2 1, 3) := by decide +kernel
theorem dX2_tellBounds_69 : decode cX2_tellBounds 69 = .ok (.iload_n 3, 1) := by decide +kernel
theorem dX2_tellBounds_70 : decode cX2_tellBounds 70 = .ok (.aload 6, 2) := by decide +kernel
theorem dX2_tellBounds_72 : decode cX2_tellBounds 72 = .ok (.getfield 69, 3) := by decide +kernel
theorem dX2_tellBounds_75 : decode cX2_tellBounds 75 = .ok (.ifCond .eq 16, 3) := by decide +kernel
theorem dX2_tellBounds_78 : decode cX2_tellBounds 78 = .ok (.aload 6, 2) := by decide +kernel
theorem dX2_tellBounds_80 : decode cX2_tellBounds 80 = .ok (.getfield 132, 3) := by decide +kernel
theorem dX2_tellBounds_83 : decode cX2_tellBounds 83 = .ok (.iconst 1, 1) := by decide +kernel
theorem dX2_tellBounds_84 : decode cX2_tellBounds 84 = .ok (.if_icmp .ne 7, 3) := by decide +kernel
theorem dX2_tellBounds_87 : decode cX2_tellBounds 87 = .ok (.iconst 1, 1) := by decide +kernel
theorem dX2_tellBounds_88 : decode cX2_tellBounds 88 = .ok (.goto 4, 3) := by decide +kernel
theorem dX2_tellBounds_91 : decode cX2_tellBounds 91 = .ok (.iconst 0, 1) := by decide +kernel
theorem dX2_tellBounds_92 : decode cX2_tellBounds 92 = .ok (.iadd, 1) := by decide +kernel
theorem dX2_tellBounds_93 : decode cX2_tellBounds 93 = .ok (.istore_n 3, 1) := by decide +kernel
theorem dX2_tellBounds_94 : decode cX2_tellBounds 94 = .ok (.iload 4, 2) := by decide +kernel
theorem dX2_tellBounds_96 : decode cX2_tellBounds 96 = .ok (.aload 6, 2) := by decide +kernel
theorem dX2_tellBounds_98 : decode cX2_tellBounds 98 = .ok (.getfield 69, 3) := by decide +kernel
theorem dX2_tellBounds_101 : decode cX2_tellBounds 101 = .ok (.ifCond .eq 15, 3) := by decide +kernel
theorem dX2_tellBounds_104 : decode cX2_tellBounds 104 = .ok (.aload 6, 2) := by decide +kernel
theorem dX2_tellBounds_106 : decode cX2_tellBounds 106 = .ok (.getfield 132, 3) := by decide +kernel
theorem dX2_tellBounds_109 : decode cX2_tellBounds 109 = .ok (.ifCond .ne 7, 3) := by decide +kernel
theorem dX2_tellBounds_112 : decode cX2_tellBounds 112 = .ok (.iconst 1, 1) := by decide +kernel
theorem dX2_tellBounds_113 : decode cX2_tellBounds 113 = .ok (.goto 4, 3) := by decide +kernel
theorem dX2_tellBounds_116 : decode cX2_tellBounds 116 = .ok (.iconst 0, 1) := by decide +kernel
theorem dX2_tellBounds_117 : decode cX2_tellBounds 117 = .ok (.iadd, 1) := by decide +kernel
theorem dX2_tellBounds_118 : decode cX2_tellBounds 118 = .ok (.istore 4, 2) := by decide +kernel
theorem dX2_tellBounds_120 : decode cX2_tellBounds 120 = .ok (.iinc 5 1, 3) := by decide +kernel
theorem dX2_tellBounds_123 : decode cX2_tellBounds 123 = .ok (.goto (-102), 3) := by decide +kernel
theorem dX2_tellBounds_126 : decode cX2_tellBounds 126 = .ok (.iload_n 2, 1) := by decide +kernel
theorem dX2_tellBounds_127 : decode cX2_tellBounds 127 = .ok (.ifCond .ne 6, 3) := by decide +kernel
theorem dX2_tellBounds_130 : decode cX2_tellBounds 130 = .ok (.bipush (-2), 2) := by decide +kernel
theorem dX2_tellBounds_132 : decode cX2_tellBounds 132 = .ok (.ireturn, 1) := by decide +kernel
theorem dX2_tellBounds_133 : decode cX2_tellBounds 133 = .ok (.aload_n 0, 1) := by decide +kernel
theorem dX2_tellBounds_134 : decode cX2_tellBounds 134 = .ok (.getfield 26, 3) := by decide +kernel
theorem dX2_tellBounds_137 : decode cX2_tellBounds 137 = .ok (.invokevirtual 95, 3) := by decide +kernel
theorem dX2_tellBounds_140 : decode cX2_tellBounds 140 = .ok (.aload_n 0, 1) := by decide +kernel
theorem dX2_tellBounds_141 : decode cX2_tellBounds 141 = .ok (.getfield 26, 3) := by decide +kernel
theorem dX2_tellBounds_144 : decode cX2_tellBounds 144 = .ok (.iload_n 3, 1) := by decide +kernel
theorem dX2_tellBounds_145 : decode cX2_tellBounds 145 = .ok (.i2l, 1) := by decide +kernel
theorem dX2_tellBounds_146 : decode cX2_tellBounds 146 = .ok (.iload_n 2, 1) := by decide +kernel
theorem dX2_tellBounds_147 : decode cX2_tellBounds 147 = .ok (.i2l, 1) := by decide +kernel
theorem dX2_tellBounds_148 : decode cX2_tellBounds 148 = .ok (.invokevirtual 113, 3) := by decide +kernel
theorem dX2_tellBounds_151 : decode cX2_tellBounds 151 = .ok (.aload_n 0, 1) := by decide +kernel
theorem dX2_tellBounds_152 : decode cX2_tellBounds 152 = .ok (.getfield 26, 3) := by decide +kernel
theorem dX2_tellBounds_155 : decode cX2_tellBounds 155 = .ok (.iload_n 3, 1) := by decide +kernel
theorem dX2_tellBounds_156 : decode cX2_tellBounds 156 = .ok (.iload 4, 2) := by decide +kernel
theorem dX2_tellBounds_158 : decode cX2_tellBounds 158 = .ok (.iadd, 1) := by decide +kernel
theorem dX2_tellBounds_159 : decode cX2_tellBounds 159 = .ok (.i2l, 1) := by decide +kernel
theorem dX2_tellBounds_160 : decode cX2_tellBounds 160 = .ok (.iload_n 2, 1) := by decide +kernel
theorem dX2_tellBounds_161 : decode cX2_tellBounds 161 = .ok (.i2l, 1) := by decide +kernel
theorem dX2_tellBounds_162 : decode cX2_tellBounds 162 = .ok (.invokevirtual 113, 3) := by decide +kernel
theorem dX2_tellBounds_165 : decode cX2_tellBounds 165 = .ok (.iload 4, 2) := by decide +kernel
theorem dX2_tellBounds_167 : decode cX2_tellBounds 167 = .ok (.ireturn, 1) := by decide +kernel
theorem dX2_tellYears_0 : decode cX2_tellYears 0 = .ok (.iload_n 1, 1) := by decide +kernel
theorem dX2_tellYears_1 : decode cX2_tellYears 1 = .ok (.iconst 0, 1) := by decide +kernel
theorem dX2_tellYears_2 : decode cX2_tellYears 2 = .ok (.bipush 99, 2) := by decide +kernel
theorem dX2_tellYears_4 : decode cX2_tellYears 4 = .ok (.invokestatic 83, 3) := by decide +kernel
theorem dX2_tellYears_7 : decode cX2_tellYears 7 = .ok (.ifCond .ne 5, 3) := by decide +kernel
theorem dX2_tellYears_10 : decode cX2_tellYears 10 = .ok (.iconst (-1), 1) := by decide +kernel
theorem dX2_tellYears_11 : decode cX2_tellYears 11 = .ok (.ireturn, 1) := by decide +kernel
theorem dX2_tellYears_12 : decode cX2_tellYears 12 = .ok (.aload_n 0, 1) := by decide +kernel
theorem dX2_tellYears_13 : decode cX2_tellYears 13 = .ok (.getfield 18, 3) := by decide +kernel
theorem dX2_tellYears_16 : decode cX2_tellYears 16 = .ok (.iconst 0, 1) := by decide +kernel
theorem dX2_tellYears_17 : decode cX2_tellYears 17 = .ok (.aaload, 1) := by decide +kernel
theorem dX2_tellYears_18 : decode cX2_tellYears 18 = .ok (.astore_n 2, 1) := by decide +kernel
theorem dX2_tellYears_19 : decode cX2_tellYears 19 = .ok (.aload_n 0, 1) := by decide +kernel
theorem dX2_tellYears_20 : decode cX2_tellYears 20 = .ok (.aload_n 0, 1) := by decide +kernel
theorem dX2_tellYears_21 : decode cX2_tellYears 21 = .ok (.getfield 12, 3) := by decide +kernel
theorem dX2_tellYears_24 : decode cX2_tellYears 24 = .ok (.iload_n 1, 1) := by decide +kernel
theorem dX2_tellYears_25 : decode cX2_tellYears 25 = .ok (.bipush 99, 2) := by decide +kernel
theorem dX2_tellYears_27 : decode cX2_tellYears 27 = .ok (.invokevirtual 87, 3) := by decide +kernel
theorem dX2_tellYears_30 : decode cX2_tellYears 30 = .ok (.iconst 0, 1) := by decide +kernel
theorem dX2_tellYears_31 : decode cX2_tellYears 31 = .ok (.istore_n 3, 1) := by decide +kernel
theorem dX2_tellYears_32 : decode cX2_tellYears 32 = .ok (.iload_n 1, 1) := by decide +kernel
theorem dX2_tellYears_33 : decode cX2_tellYears 33 = .ok (.iload_n 3, 1) := by decide +kernel
theorem dX2_tellYears_34 : decode cX2_tellYears 34 = .ok (.iadd, 1) := by decide +kernel
theorem dX2_tellYears_35 : decode cX2_tellYears 35 = .ok (.bipush 99, 2) := by decide +kernel
theorem dX2_tellYears_37 : decode cX2_tellYears 37 = .ok (.if_icmp .gt 105, 3) := by decide +kernel
theorem dX2_tellYears_40 : decode cX2_tellYears 40 = .ok (.aload_n 0, 1) := by decide +kernel
theorem dX2_tellYears_41 : decode cX2_tellYears 41 = .ok (.getfield 12, 3) := by decide +kernel
theorem dX2_tellYears_44 : decode cX2_tellYears 44 = .ok (.getfield 104, 3) := by decide +kernel
theorem dX2_tellYears_47 : decode cX2_tellYears 47 = .ok (.iconst 0, 1) := by decide +kernel
theorem dX2_tellYears_48 : decode cX2_tellYears 48 = .ok (.iaload, 1) := by decide +kernel
theorem dX2_tellYears_49 : decode cX2_tellYears 49 = .ok (.ifCond .le 93, 3) := by decide +kernel
theorem dX2_tellYears_52 : decode cX2_tellYears 52 = .ok (.aload_n 0, 1) := by decide +kernel
theorem dX2_tellYears_53 : decode cX2_tellYears 53 = .ok (.aload_n 2, 1) := by decide +kernel
theorem dX2_tellYears_54 : decode cX2_tellYears 54 = .ok (.iload_n 1, 1) := by decide +kernel
theorem dX2_tellYears_55 : decode cX2_tellYears 55 = .ok (.iload_n 3, 1) := by decide +kernel
theorem dX2_tellYears_56 : decode cX2_tellYears 56 = .ok (.iadd, 1) := by decide +kernel
theorem dX2_tellYears_57 : decode cX2_tellYears 57 = .ok (.bipush 99, 2) := by decide +kernel
theorem dX2_tellYears_59 : decode cX2_tellYears 59 = .ok (.invokevirtual 87, 3) := by decide +kernel
theorem dX2_tellYears_62 : decode cX2_tellYears 62 = .ok (.aload_n 2, 1) := by decide +kernel
theorem dX2_tellYears_63 : decode cX2_tellYears 63 = .ok (.getfield 104, 3) := by decide +kernel
theorem dX2_tellYears_66 : decode cX2_tellYears 66 = .ok (.iconst 1, 1) := by decide +kernel
theorem dX2_tellYears_67 : decode cX2_tellYears 67 = .ok (.iaload, 1) := by decide +kernel
theorem dX2_tellYears_68 : decode cX2_tellYears 68 = .ok (.ifCond .le 68, 3) := by decide +kernel
theorem dX2_tellYears_71 : decode cX2_tellYears 71 = .ok (.aload_n 2, 1) := by decide +kernel
theorem dX2_tellYears_72 : decode cX2_tellYears 72 = .ok (.getfield 98, 3) := by decide +kernel
theorem dX2_tellYears_75 : decode cX2_tellYears 75 = .ok (.iconst 1, 1) := by decide +kernel
theorem dX2_tellYears_76 : decode cX2_tellYears 76 = .ok (.iaload, 1) := by decide +kernel
theorem dX2_tellYears_77 : decode cX2_tellYears 77 = .ok (.aload_n 0, 1) := by decide +kernel
theorem dX2_tellYears_78 : decode cX2_tellYears 78 = .ok (.getfield 12, 3) := by decide +kernel
theorem dX2_tellYears_81 : decode cX2_tellYears 81 = .ok (.getfield 104, 3) := by decide +kernel
theorem dX2_tellYears_84 : decode cX2_tellYears 84 = .ok (.iconst 0, 1) := by decide +kernel
theorem dX2_tellYears_85 : decode cX2_tellYears 85 = .ok (.iaload, 1) := by decide +kernel
theorem dX2_tellYears_86 : decode cX2_tellYears 86 = .ok (.imul, 1) := by decide +kernel
theorem dX2_tellYears_87 : decode cX2_tellYears 87 = .ok (.aload_n 0, 1) := by decide +kernel
theorem dX2_tellYears_88 : decode cX2_tellYears 88 = .ok (.getfield 12, 3) := by decide +kernel
theorem dX2_tellYears_91 : decode cX2_tellYears 91 = .ok (.getfield 98, 3) := by decide +kernel
theorem dX2_tellYears_94 : decode cX2_tellYears 94 = .ok (.iconst 0, 1) := by decide +kernel
theorem dX2_tellYears_95 : decode cX2_tellYears 95 = .ok (.iaload, 1) := by decide +kernel
theorem dX2_tellYears_96 : decode cX2_tellYears 96 = .ok (.aload_n 2, 1) := by decide +kernel
theorem dX2_tellYears_97 : decode cX2_tellYears 97 = .ok (.getfield 104, 3) := by decide +kernel
theorem dX2_tellYears_100 : decode cX2_tellYears 100 = .ok (.iconst 1, 1) := by decide +kernel
theorem dX2_tellYears_101 : decode cX2_tellYears 101 = .ok (.iaload, 1) := by decide +kernel
theorem dX2_tellYears_102 : decode cX2_tellYears 102 = .ok (.imul, 1) := by decide +kernel
theorem dX2_tellYears_103 : decode cX2_tellYears 103 = .ok (.if_icmp .lt 33, 3) := by decide +kernel
theorem dX2_tellYears_106 : decode cX2_tellYears 106 = .ok (.aload_n 0, 1) := by decide +kernel
theorem dX2_tellYears_107 : decode cX2_tellYears 107 = .ok (.getfield 26, 3) := by decide +kernel
theorem dX2_tellYears_110 : decode cX2_tellYears 110 = .ok (.invokevirtual 95, 3) := by decide +kernel
theorem dX2_tellYears_113 : decode cX2_tellYears 113 = .ok (.aload_n 0, 1) := by decide +kernel
theorem dX2_tellYears_114 : decode cX2_tellYears 114 = .ok (.getfield 26, 3) := by decide +kernel
theorem dX2_tellYears_117 : decode cX2_tellYears 117 = .ok (.aload_n 2, 1) := by decide +kernel
theorem dX2_tellYears_118 : decode cX2_tellYears 118 = .ok (.getfield 98, 3) := by decide +kernel
theorem dX2_tellYears_121 : decode cX2_tellYears 121 = .ok (.iconst 1, 1) := by decide +kernel
theorem dX2_tellYears_122 : decode cX2_tellYears 122 = .ok (.iaload, 1) := by decide +kernel
theorem dX2_tellYears_123 : decode cX2_tellYears 123 = .ok (.i2l, 1) := by decide +kernel
theorem dX2_tellYears_124 : decode cX2_tellYears 124 = .ok (.aload_n 2, 1) := by decide +kernel
theorem dX2_tellYears_125 : decode cX2_tellYears 125 = .ok (.getfield 104, 3) := by decide +kernel
theorem dX2_tellYears_128 : decode cX2_tellYears 128 = .ok (.iconst 1, 1) := by decide +kernel
theorem dX2_tellYears_129 : decode cX2_tellYears 129 = .ok (.iaload, 1) := by decide +kernel
theorem dX2_tellYears_130 : decode cX2_tellYears 130 = .ok (.i2l, 1) := by decide +kernel
theorem dX2_tellYears_131 : decode cX2_tellYears 131 = .ok (.invokevirtual 113, 3) := by decide +kernel
theorem dX2_tellYears_134 : decode cX2_tellYears 134 = .ok (.iload_n 3, 1) := by decide +kernel
theorem dX2_tellYears_135 : decode cX2_tellYears 135 = .ok (.ireturn, 1) := by decide +kernel
theorem dX2_tellYears_136 : decode cX2_tellYears 136 = .ok (.iinc 3 1, 3) := by decide +kernel
theorem dX2_tellYears_139 : decode cX2_tellYears 139 = .ok (.goto (-107), 3) := by decide +kernel
theorem dX2_tellYears_142 : decode cX2_tellYears 142 = .ok (.bipush (-2), 2) := by decide +kernel
theorem dX2_tellYears_144 : decode cX2_tellYears 144 = .ok (.ireturn, 1) := by decide +kernel
theorem dX2_tellMornings_0 : decode cX2_tellMornings 0 = .ok (.iload_n 1, 1) := by decide +kernel
theorem dX2_tellMornings_1 : decode cX2_tellMornings 1 = .ok (.iconst 0, 1) := by decide +kernel
theorem dX2_tellMornings_2 : decode cX2_tellMornings 2 = .ok (.bipush 99, 2) := by decide +kernel
theorem dX2_tellMornings_4 : decode cX2_tellMornings 4 = .ok (.invokestatic 83, 3) := by decide +kernel
theorem dX2_tellMornings_7 : decode cX2_tellMornings 7 = .ok (.ifCond .eq 24, 3) := by decide +kernel
theorem dX2_tellMornings_10 : decode cX2_tellMornings 10 = .ok (.iload_n 2, 1) := by decide +kernel
theorem dX2_tellMornings_11 : decode cX2_tellMornings 11 = .ok (.iconst 0, 1) := by decide +kernel
theorem dX2_tellMornings_12 : decode cX2_tellMornings 12 = .ok (.bipush 99, 2) := by decide +kernel
theorem dX2_tellMornings_14 : decode cX2_tellMornings 14 = .ok (.invokestatic 83, 3) := by decide +kernel
theorem dX2_tellMornings_17 : decode cX2_tellMornings 17 = .ok (.ifCond .eq 14, 3) := by decide +kernel
theorem dX2_tellMornings_20 : decode cX2_tellMornings 20 = .ok (.iload_n 3, 1) := by decide +kernel
theorem dX2_tellMornings_21 : decode cX2_tellMornings 21 = .ok (.iconst 0, 1) := by decide +kernel
theorem dX2_tellMornings_22 : decode cX2_tellMornings 22 = .ok (.sipush 999, 3) := by decide +kernel
theorem dX2_tellMornings_25 : decode cX2_tellMornings 25 = .ok (.invokestatic 83, 3) := by decide +kernel
theorem dX2_tellMornings_28 : decode cX2_tellMornings 28 = .ok (.ifCond .ne 5, 3) := by decide +kernel
theorem dX2_tellMornings_31 : decode cX2_tellMornings 31 = .ok (.iconst (-1), 1) := by decide +kernel
theorem dX2_tellMornings_32 : decode cX2_tellMornings 32 = .ok (.ireturn, 1) := by decide +kernel
theorem dX2_tellMornings_33 : decode cX2_tellMornings 33 = .ok (.iconst 0, 1) := by decide +kernel
theorem dX2_tellMornings_34 : decode cX2_tellMornings 34 = .ok (.istore 4, 2) := by decide +kernel
theorem dX2_tellMornings_36 : decode cX2_tellMornings 36 = .ok (.iconst (-1), 1) := by decide +kernel
theorem dX2_tellMornings_37 : decode cX2_tellMornings 37 = .ok (.istore 5, 2) := by decide +kernel
theorem dX2_tellMornings_39 : decode cX2_tellMornings 39 = .ok (.iconst 0, 1) := by decide +kernel
theorem dX2_tellMornings_40 : decode cX2_tellMornings 40 = .ok (.istore 6, 2) := by decide +kernel
theorem dX2_tellMornings_42 : decode cX2_tellMornings 42 = .ok (.iconst 0, 1) := by decide +kernel
theorem dX2_tellMornings_43 : decode cX2_tellMornings 43 = .ok (.istore 7, 2) := by decide +kernel
theorem dX2_tellMornings_45 : decode cX2_tellMornings 45 = .ok (.iload 7, 2) := by decide +kernel
theorem dX2_tellMornings_47 : decode cX2_tellMornings 47 = .ok (.aload_n 0, 1) := by decide +kernel
theorem dX2_tellMornings_48 : decode cX2_tellMornings 48 = .ok (.getfield 22, 3) := by decide +kernel
theorem dX2_tellMornings_51 : decode cX2_tellMornings 51 = .ok (.getfield 135, 3) := by decide +kernel
theorem dX2_tellMornings_54 : decode cX2_tellMornings 54 = .ok (.if_icmp .ge 138, 3) := by decide +kernel
theorem dX2_tellMornings_57 : decode cX2_tellMornings 57 = .ok (.iconst 0, 1) := by decide +kernel
theorem dX2_tellMornings_58 : decode cX2_tellMornings 58 = .ok (.istore 8, 2) := by decide +kernel
theorem dX2_tellMornings_60 : decode cX2_tellMornings 60 = .ok (.iconst 0, 1) := by decide +kernel
theorem dX2_tellMornings_61 : decode cX2_tellMornings 61 = .ok (.istore 9, 2) := by decide +kernel
theorem dX2_tellMornings_63 : decode cX2_tellMornings 63 = .ok (.iload 9, 2) := by decide +kernel
theorem dX2_tellMornings_65 : decode cX2_tellMornings 65 = .ok (.aload_n 0, 1) := by decide +kernel
theorem dX2_tellMornings_66 : decode cX2_tellMornings 66 = .ok (.getfield 22, 3) := by decide +kernel
theorem dX2_tellMornings_69 : decode cX2_tellMornings 69 = .ok (.getfield 54, 3) := by decide +kernel
theorem dX2_tellMornings_72 : decode cX2_tellMornings 72 = .ok (.if_icmp .ge 86, 3) := by decide +kernel
theorem dX2_tellMornings_75 : decode cX2_tellMornings 75 = .ok (.aload_n 0, 1) := by decide +kernel
theorem dX2_tellMornings_76 : decode cX2_tellMornings 76 = .ok (.getfield 22, 3) := by decide +kernel
theorem dX2_tellMornings_79 : decode cX2_tellMornings 79 = .ok (.getfield 57, 3) := by decide +kernel
theorem dX2_tellMornings_82 : decode cX2_tellMornings 82 = .ok (.iload 9, 2) := by decide +kernel
theorem dX2_tellMornings_84 : decode cX2_tellMornings 84 = .ok (.aaload, 1) := by decide +kernel
theorem dX2_tellMornings_85 : decode cX2_tellMornings 85 = .ok (.astore 10, 2) := by decide +kernel
theorem dX2_tellMornings_87 : decode cX2_tellMornings 87 = .ok (.aload 10, 2) := by decide +kernel
theorem dX2_tellMornings_89 : decode cX2_tellMornings 89 = .ok (.getfield 42, 3) := by decide +kernel
theorem dX2_tellMornings_92 : decode cX2_tellMornings 92 = .ok (.iload 7, 2) := by decide +kernel
theorem dX2_tellMornings_94 : decode cX2_tellMornings 94 = .ok (.if_icmp .ne 58, 3) := by decide +kernel
theorem dX2_tellMornings_97 : decode cX2_tellMornings 97 = .ok (.aload 10, 2) := by decide +kernel
theorem dX2_tellMornings_99 : decode cX2_tellMornings 99 = .ok (.getfield 61, 3) := by decide +kernel
theorem dX2_tellMornings_102 : decode cX2_tellMornings 102 = .ok (.ifCond .eq 50, 3) := by decide +kernel
theorem dX2_tellMornings_105 : decode cX2_tellMornings 105 = .ok (.iload 8, 2) := by decide +kernel
theorem dX2_tellMornings_107 : decode cX2_tellMornings 107 = .ok (.iload_n 1, 1) := by decide +kernel
theorem dX2_tellMornings_108 : decode cX2_tellMornings 108 = .ok (.aload 10, 2) := by decide +kernel
theorem dX2_tellMornings_110 : decode cX2_tellMornings 110 = .ok (.getfield 69, 3) := by decide +kernel
theorem dX2_tellMornings_113 : decode cX2_tellMornings 113 = .ok (.ifCond .eq 7, 3) := by decide +kernel
theorem dX2_tellMornings_116 : decode cX2_tellMornings 116 = .ok (.iload_n 2, 1) := by decide +kernel
theorem dX2_tellMornings_117 : decode cX2_tellMornings 117 = .ok (.goto 4, 3) := by decide +kernel
theorem dX2_tellMornings_120 : decode cX2_tellMornings 120 = .ok (.iconst 0, 1) := by decide +kernel
theorem dX2_tellMornings_121 : decode cX2_tellMornings 121 = .ok (.iadd, 1) := by decide +kernel
theorem dX2_tellMornings_122 : decode cX2_tellMornings 122 = .ok (.iadd, 1) := by decide +kernel
theorem dX2_tellMornings_123 : decode cX2_tellMornings 123 = .ok (.istore 8, 2) := by decide +kernel
theorem dX2_tellMornings_125 : decode cX2_tellMornings 125 = .ok (.iload 8, 2) := by decide +kernel
theorem dX2_tellMornings_127 : decode cX2_tellMornings 127 = .ok (.aload 10, 2) := by decide +kernel
theorem dX2_tellMornings_129 : decode cX2_tellMornings 129 = .ok (.getfield 69, 3) := by decide +kernel
theorem dX2_tellMornings_132 : decode cX2_tellMornings 132 = .ok (.ifCond .eq 16, 3) := by decide +kernel
theorem dX2_tellMornings_135 : decode cX2_tellMornings 135 = .ok (.aload 10, 2) := by decide +kernel
theorem dX2_tellMornings_137 : decode cX2_tellMornings 137 = .ok (.getfield 132, 3) := by decide +kernel
theorem dX2_tellMornings_140 : decode cX2_tellMornings 140 = .ok (.iconst 2, 1) := by decide +kernel
theorem dX2_tellMornings_141 : decode cX2_tellMornings 141 = .ok (.if_icmp .ne 7, 3) := by decide +kernel
theorem dX2_tellMornings_144 : decode cX2_tellMornings 144 = .ok (.iload_n 3, 1) := by decide +kernel
theorem dX2_tellMornings_145 : decode cX2_tellMornings 145 = .ok (.goto 4, 3) := by decide +kernel
theorem dX2_tellMornings_148 : decode cX2_tellMornings 148 = .ok (.iconst 0, 1) := by decide +kernel
theorem dX2_tellMornings_149 : decode cX2_tellMornings 149 = .ok (.iadd, 1) := by decide +kernel
theorem dX2_tellMornings_150 : decode cX2_tellMornings 150 = .ok (.istore 8, 2) := by decide +kernel
theorem dX2_tellMornings_152 : decode cX2_tellMornings 152 = .ok (.iinc 9 1, 3) := by decide +kernel
theorem dX2_tellMornings_155 : decode cX2_tellMornings 155 = .ok (.goto (-92), 3) := by decide +kernel
theorem dX2_tellMornings_158 : decode cX2_tellMornings 158 = .ok (.iload 4, 2) := by decide +kernel
theorem dX2_tellMornings_160 : decode cX2_tellMornings 160 = .ok (.iload 8, 2) := by decide +kernel
theorem dX2_tellMornings_162 : decode cX2_tellMornings 162 = .ok (.iadd, 1) := by decide +kernel
theorem dX2_tellMornings_163 : decode cX2_tellMornings 163 = .ok (.istore 4, 2) := by decide +kernel
theorem dX2_tellMornings_165 : decode cX2_tellMornings 165 = .ok (.iload 5, 2) := by decide +kernel
theorem dX2_tellMornings_167 : decode cX2_tellMornings 167 = .ok (.iconst (-1), 1) := by decide +kernel
theorem dX2_tellMornings_168 : decode cX2_tellMornings 168 = .ok (.if_icmp .eq 10, 3) := by decide +kernel
theorem dX2_tellMornings_171 : decode cX2_tellMornings 171 = .ok (.iload 8, 2) := by decide +kernel
theorem dX2_tellMornings_173 : decode cX2_tellMornings 173 = .ok (.iload 6, 2) := by decide +kernel
theorem dX2_tellMornings_175 : decode cX2_tellMornings 175 = .ok (.if_icmp .le 11, 3) := by decide +kernel
theorem dX2_tellMornings_178 : decode cX2_tellMornings 178 = .ok (.iload 7, 2) := by decide +kernel
theorem dX2_tellMornings_180 : decode cX2_tellMornings 180 = .ok (.istore 5, 2) := by decide +kernel
theorem dX2_tellMornings_182 : decode cX2_tellMornings 182 = .ok (.iload 8, 2) := by decide +kernel
theorem dX2_tellMornings_184 : decode cX2_tellMornings 184 = .ok (.istore 6, 2) := by decide +kernel
theorem dX2_tellMornings_186 : decode cX2_tellMornings 186 = .ok (.iinc 7 1, 3) := by decide +kernel
theorem dX2_tellMornings_189 : decode cX2_tellMornings 189 = .ok (.goto (-144), 3) := by decide +kernel
theorem dX2_tellMornings_192 : decode cX2_tellMornings 192 = .ok (.aload_n 0, 1) := by decide +kernel
theorem dX2_tellMornings_193 : decode cX2_tellMornings 193 = .ok (.getfield 26, 3) := by decide +kernel
theorem dX2_tellMornings_196 : decode cX2_tellMornings 196 = .ok (.invokevirtual 95, 3) := by decide +kernel
theorem dX2_tellMornings_199 : decode cX2_tellMornings 199 = .ok (.aload_n 0, 1) := by decide +kernel
theorem dX2_tellMornings_200 : decode cX2_tellMornings 200 = .ok (.getfield 26, 3) := by decide +kernel
theorem dX2_tellMornings_203 : decode cX2_tellMornings 203 = .ok (.iload 5, 2) := by decide +kernel
theorem dX2_tellMornings_205 : decode cX2_tellMornings 205 = .ok (.i2l, 1) := by decide +kernel
theorem dX2_tellMornings_206 : decode cX2_tellMornings 206 = .ok (.invokevirtual 100, 3) := by decide +kernel
theorem dX2_tellMornings_209 : decode cX2_tellMornings 209 = .ok (.aload_n 0, 1) := by decide +kernel
theorem dX2_tellMornings_210 : decode cX2_tellMornings 210 = .ok (.getfield 26, 3) := by decide +kernel
theorem dX2_tellMornings_213 : decode cX2_tellMornings 213 = .ok (.iload 6, 2) := by decide +kernel
theorem dX2_tellMornings_215 : decode cX2_tellMornings 215 = .ok (.i2l, 1) := by decide +kernel
theorem dX2_tellMornings_216 : decode cX2_tellMornings 216 = .ok (.invokevirtual 100, 3) := by decide +kernel
theorem dX2_tellMornings_219 : decode cX2_tellMornings 219 = .ok (.iload 4, 2) := by decide +kernel
theorem dX2_tellMornings_221 : decode cX2_tellMornings 221 = .ok (.ireturn, 1) := by decide +kernel
theorem dX3_init_0 : decode cX3_init 0 = .ok (.aload_n 0, 1) := by decide +kernel
theorem dX3_init_1 : decode cX3_init 1 = .ok (.invokespecial 3, 3) := by decide +kernel
theorem dX3_init_4 : decode cX3_init 4 = .ok (.aload_n 0, 1) := by decide +kernel
theorem dX3_init_5 : decode cX3_init 5 = .ok (.bipush 40, 2) := by decide +kernel
theorem dX3_init_7 : decode cX3_init 7 = .ok (.newarray .int, 2) := by decide +kernel
theorem dX3_init_9 : decode cX3_init 9 = .ok (.putfield 11, 3) := by decide +kernel
theorem dX3_init_12 : decode cX3_init 12 = .ok (.aload_n 0, 1) := by decide +kernel
theorem dX3_init_13 : decode cX3_init 13 = .ok (.bipush 40, 2) := by decide +kernel
theorem dX3_init_15 : decode cX3_init 15 = .ok (.newarray .int, 2) := by decide +kernel
theorem dX3_init_17 : decode cX3_init 17 = .ok (.putfield 15, 3) := by decide +kernel
theorem dX3_init_20 : decode cX3_init 20 = .ok (.return_, 1) := by decide +kernel
theorem dX3_isTold_0 : decode cX3_isTold 0 = .ok (.aload_n 0, 1) := by decide +kernel
theorem dX3_isTold_1 : decode cX3_isTold 1 = .ok (.getfield 18, 3) := by decide +kernel
theorem dX3_isTold_4 : decode cX3_isTold 4 = .ok (.ifCond .le 7, 3) := by decide +kernel
theorem dX3_isTold_7 : decode cX3_isTold 7 = .ok (.iconst 1, 1) := by decide +kernel
theorem dX3_isTold_8 : decode cX3_isTold 8 = .ok (.goto 4, 3) := by decide +kernel
theorem dX3_isTold_11 : decode cX3_isTold 11 = .ok (.iconst 0, 1) := by decide +kernel
theorem dX3_isTold_12 : decode cX3_isTold 12 = .ok (.ireturn, 1) := by decide +kernel
theorem dX3_firstWrong_0 : decode cX3_firstWrong 0 = .ok (.iconst 1, 1) := by decide +kernel
theorem dX3_firstWrong_1 : decode cX3_firstWrong 1 = .ok (.istore_n 3, 1) := by decide +kernel
theorem dX3_firstWrong_2 : decode cX3_firstWrong 2 = .ok (.iconst 0, 1) := by decide +kernel
theorem dX3_firstWrong_3 : decode cX3_firstWrong 3 = .ok (.istore 4, 2) := by decide +kernel
theorem dX3_firstWrong_5 : decode cX3_firstWrong 5 = .ok (.iconst 0, 1) := by decide +kernel
theorem dX3_firstWrong_6 : decode cX3_firstWrong 6 = .ok (.istore 5, 2) := by decide +kernel
theorem dX3_firstWrong_8 : decode cX3_firstWrong 8 = .ok (.iconst 0, 1) := by decide +kernel
theorem dX3_firstWrong_9 : decode cX3_firstWrong 9 = .ok (.istore 6, 2) := by decide +kernel
theorem dX3_firstWrong_11 : decode cX3_firstWrong 11 = .ok (.iload_n 1, 1) := by decide +kernel
theorem dX3_firstWrong_12 : decode cX3_firstWrong 12 = .ok (.bipush 40, 2) := by decide +kernel
theorem dX3_firstWrong_14 : decode cX3_firstWrong 14 = .ok (.if_icmp .ge 7, 3) := by decide +kernel
theorem dX3_firstWrong_17 : decode cX3_firstWrong 17 = .ok (.iload_n 1, 1) := by decide +kernel
theorem dX3_firstWrong_18 : decode cX3_firstWrong 18 = .ok (.goto 5, 3) := by decide +kernel
theorem dX3_firstWrong_21 : decode cX3_firstWrong 21 = .ok (.bipush 40, 2) := by decide +kernel
theorem dX3_firstWrong_23 : decode cX3_firstWrong 23 = .ok (.istore 7, 2) := by decide +kernel
theorem dX3_firstWrong_25 : decode cX3_firstWrong 25 = .ok (.iconst 0, 1) := by decide +kernel
theorem dX3_firstWrong_26 : decode cX3_firstWrong 26 = .ok (.istore 8, 2) := by decide +kernel
theorem dX3_firstWrong_28 : decode cX3_firstWrong 28 = .ok (.iload 8, 2) := by decide +kernel
theorem dX3_firstWrong_30 : decode cX3_firstWrong 30 = .ok (.iload 7, 2) := by decide +kernel
theorem dX3_firstWrong_32 : decode cX3_firstWrong 32 = .ok (.if_icmp .ge 227, 3) := by decide +kernel
theorem dX3_firstWrong_35 : decode cX3_firstWrong 35 = .ok (.aload_n 0, 1) := by decide +kernel
theorem dX3_firstWrong_36 : decode cX3_firstWrong 36 = .ok (.iload 8, 2) := by decide +kernel
theorem dX3_firstWrong_38 : decode cX3_firstWrong 38 = .ok (.iaload, 1) := by decide +kernel
theorem dX3_firstWrong_39 : decode cX3_firstWrong 39 = .ok (.istore 9, 2) := by decide +kernel
theorem dX3_firstWrong_41 : decode cX3_firstWrong 41 = .ok (.iload_n 3, 1) := by decide +kernel
theorem dX3_firstWrong_42 : decode cX3_firstWrong 42 = .ok (.ifCond .eq 87, 3) := by decide +kernel
theorem dX3_firstWrong_45 : decode cX3_firstWrong 45 = .ok (.iload 9, 2) := by decide +kernel
theorem dX3_firstWrong_47 : decode cX3_firstWrong 47 = .ok (.bipush 40, 2) := by decide +kernel
theorem dX3_firstWrong_49 : decode cX3_firstWrong 49 = .ok (.if_icmp .ne 26, 3) := by decide +kernel
theorem dX3_firstWrong_52 : decode cX3_firstWrong 52 = .ok (.iload 5, 2) := by decide +kernel
theorem dX3_firstWrong_54 : decode cX3_firstWrong 54 = .ok (.iconst 5, 1) := by decide +kernel
theorem dX3_firstWrong_55 : decode cX3_firstWrong 55 = .ok (.if_icmp .ge 20, 3) := by decide +kernel
theorem dX3_firstWrong_58 : decode cX3_firstWrong 58 = .ok (.iinc 5 1, 3) := by decide +kernel
theorem dX3_firstWrong_61 : decode cX3_firstWrong 61 = .ok (.iload 6, 2) := by decide +kernel
theorem dX3_firstWrong_63 : decode cX3_firstWrong 63 = .ok (.iconst 1, 1) := by decide +kernel
theorem dX3_firstWrong_64 : decode cX3_firstWrong 64 = .ok (.iload 5, 2) := by decide +kernel
theorem dX3_firstWrong_66 : decode cX3_firstWrong 66 = .ok (.ishl, 1) := by decide +kernel
theorem dX3_firstWrong_67 : decode cX3_firstWrong 67 = .ok (.iconst (-1), 1) := by decide +kernel
theorem dX3_firstWrong_68 : decode cX3_firstWrong 68 = .ok (.ixor, 1) := by decide +kernel
theorem dX3_firstWrong_69 : decode cX3_firstWrong 69 = .ok (.iand, 1) := by decide +kernel
theorem dX3_firstWrong_70 : decode cX3_firstWrong 70 = .ok (.istore 6, 2) := by decide +kernel
theorem dX3_firstWrong_72 : decode cX3_firstWrong 72 = .ok (.goto 181, 3) := by decide +kernel
theorem dX3_firstWrong_75 : decode cX3_firstWrong 75 = .ok (.iload 9, 2) := by decide +kernel
theorem dX3_firstWrong_77 : decode cX3_firstWrong 77 = .ok (.invokestatic 22, 3) := by decide +kernel
theorem dX3_firstWrong_80 : decode cX3_firstWrong 80 = .ok (.ifCond .ne 12, 3) := by decide +kernel
theorem dX3_firstWrong_83 : decode cX3_firstWrong 83 = .ok (.iload 9, 2) := by decide +kernel
theorem dX3_firstWrong_85 : decode cX3_firstWrong 85 = .ok (.iload_n 2, 1) := by decide +kernel
theorem dX3_firstWrong_86 : decode cX3_firstWrong 86 = .ok (.invokestatic 26, 3) := by decide +kernel
theorem dX3_firstWrong_89 : decode cX3_firstWrong 89 = .ok (.ifCond .eq 23, 3) := by decide +kernel
theorem dX3_firstWrong_92 : decode cX3_firstWrong 92 = .ok (.iload 9, 2) := by decide +kernel
theorem dX3_firstWrong_94 : decode cX3_firstWrong 94 = .ok (.invokestatic 22, 3) := by decide +kernel
theorem dX3_firstWrong_97 : decode cX3_firstWrong 97 = .ok (.ifCond .eq 7, 3) := by decide +kernel
theorem dX3_firstWrong_100 : decode cX3_firstWrong 100 = .ok (.iconst 1, 1) := by decide +kernel
theorem dX3_firstWrong_101 : decode cX3_firstWrong 101 = .ok (.goto 4, 3) := by decide +kernel
theorem dX3_firstWrong_104 : decode cX3_firstWrong 104 = .ok (.iconst 3, 1) := by decide +kernel
theorem dX3_firstWrong_105 : decode cX3_firstWrong 105 = .ok (.istore 4, 2) := by decide +kernel
theorem dX3_firstWrong_107 : decode cX3_firstWrong 107 = .ok (.iconst 0, 1) := by decide +kernel
theorem dX3_firstWrong_108 : decode cX3_firstWrong 108 = .ok (.istore_n 3, 1) := by decide +kernel
theorem dX3_firstWrong_109 : decode cX3_firstWrong 109 = .ok (.goto 144, 3) := by decide +kernel
theorem dX3_firstWrong_112 : decode cX3_firstWrong 112 = .ok (.iload 9, 2) := by decide +kernel
theorem dX3_firstWrong_114 : decode cX3_firstWrong 114 = .ok (.bipush 33, 2) := by decide +kernel
theorem dX3_firstWrong_116 : decode cX3_firstWrong 116 = .ok (.if_icmp .eq 137, 3) := by decide +kernel
theorem dX3_firstWrong_119 : decode cX3_firstWrong 119 = .ok (.iload 9, 2) := by decide +kernel
theorem dX3_firstWrong_121 : decode cX3_firstWrong 121 = .ok (.bipush 45, 2) := by decide +kernel
theorem dX3_firstWrong_123 : decode cX3_firstWrong 123 = .ok (.if_icmp .eq 130, 3) := by decide +kernel
theorem dX3_firstWrong_126 : decode cX3_firstWrong 126 = .ok (.iload 8, 2) := by decide +kernel
theorem dX3_firstWrong_128 : decode cX3_firstWrong 128 = .ok (.ireturn, 1) := by decide +kernel
theorem dX3_firstWrong_129 : decode cX3_firstWrong 129 = .ok (.iload 9, 2) := by decide +kernel
theorem dX3_firstWrong_131 : decode cX3_firstWrong 131 = .ok (.invokestatic 22, 3) := by decide +kernel
theorem dX3_firstWrong_134 : decode cX3_firstWrong 134 = .ok (.ifCond .eq 15, 3) := by decide +kernel
theorem dX3_firstWrong_137 : decode cX3_firstWrong 137 = .ok (.iload 4, 2) := by decide +kernel
theorem dX3_firstWrong_139 : decode cX3_firstWrong 139 = .ok (.iconst 3, 1) := by decide +kernel
theorem dX3_firstWrong_140 : decode cX3_firstWrong 140 = .ok (.if_icmp .ge 9, 3) := by decide +kernel
theorem dX3_firstWrong_143 : decode cX3_firstWrong 143 = .ok (.iinc 4 1, 3) := by decide +kernel
theorem dX3_firstWrong_146 : decode cX3_firstWrong 146 = .ok (.goto 107, 3) := by decide +kernel
theorem dX3_firstWrong_149 : decode cX3_firstWrong 149 = .ok (.iload 9, 2) := by decide +kernel
theorem dX3_firstWrong_151 : decode cX3_firstWrong 151 = .ok (.bipush 41, 2) := by decide +kernel
theorem dX3_firstWrong_153 : decode cX3_firstWrong 153 = .ok (.if_icmp .ne 17, 3) := by decide +kernel
theorem dX3_firstWrong_156 : decode cX3_firstWrong 156 = .ok (.iload 5, 2) := by decide +kernel
theorem dX3_firstWrong_158 : decode cX3_firstWrong 158 = .ok (.ifCond .le 12, 3) := by decide +kernel
theorem dX3_firstWrong_161 : decode cX3_firstWrong 161 = .ok (.iinc 5 (-1), 3) := by decide +kernel
theorem dX3_firstWrong_164 : decode cX3_firstWrong 164 = .ok (.iconst 3, 1) := by decide +kernel
theorem dX3_firstWrong_165 : decode cX3_firstWrong 165 = .ok (.istore 4, 2) := by decide +kernel
theorem dX3_firstWrong_167 : decode cX3_firstWrong 167 = .ok (.goto 86, 3) := by decide +kernel
theorem dX3_firstWrong_170 : decode cX3_firstWrong 170 = .ok (.iload 9, 2) := by decide +kernel
theorem dX3_firstWrong_172 : decode cX3_firstWrong 172 = .ok (.invokestatic 30, 3) := by decide +kernel
theorem dX3_firstWrong_175 : decode cX3_firstWrong 175 = .ok (.iconst 3, 1) := by decide +kernel
theorem dX3_firstWrong_176 : decode cX3_firstWrong 176 = .ok (.if_icmp .ne 27, 3) := by decide +kernel
theorem dX3_firstWrong_179 : decode cX3_firstWrong 179 = .ok (.iload 6, 2) := by decide +kernel
theorem dX3_firstWrong_181 : decode cX3_firstWrong 181 = .ok (.iload 5, 2) := by decide +kernel
theorem dX3_firstWrong_183 : decode cX3_firstWrong 183 = .ok (.ishr, 1) := by decide +kernel
theorem dX3_firstWrong_184 : decode cX3_firstWrong 184 = .ok (.iconst 1, 1) := by decide +kernel
theorem dX3_firstWrong_185 : decode cX3_firstWrong 185 = .ok (.iand, 1) := by decide +kernel
theorem dX3_firstWrong_186 : decode cX3_firstWrong 186 = .ok (.ifCond .ne 17, 3) := by decide +kernel
theorem dX3_firstWrong_189 : decode cX3_firstWrong 189 = .ok (.iload 6, 2) := by decide +kernel
theorem dX3_firstWrong_191 : decode cX3_firstWrong 191 = .ok (.iconst 1, 1) := by decide +kernel
theorem dX3_firstWrong_192 : decode cX3_firstWrong 192 = .ok (.iload 5, 2) := by decide +kernel
theorem dX3_firstWrong_194 : decode cX3_firstWrong 194 = .ok (.ishl, 1) := by decide +kernel
theorem dX3_firstWrong_195 : decode cX3_firstWrong 195 = .ok (.ior, 1) := by decide +kernel
theorem dX3_firstWrong_196 : decode cX3_firstWrong 196 = .ok (.istore 6, 2) := by decide +kernel
theorem dX3_firstWrong_198 : decode cX3_firstWrong 198 = .ok (.iconst 1, 1) := by decide +kernel
theorem dX3_firstWrong_199 : decode cX3_firstWrong 199 = .ok (.istore_n 3, 1) := by decide +kernel
theorem dX3_firstWrong_200 : decode cX3_firstWrong 200 = .ok (.goto 53, 3) := by decide +kernel
theorem dX3_firstWrong_203 : decode cX3_firstWrong 203 = .ok (.iload 9, 2) := by decide +kernel
theorem dX3_firstWrong_205 : decode cX3_firstWrong 205 = .ok (.invokestatic 34, 3) := by decide +kernel
theorem dX3_firstWrong_208 : decode cX3_firstWrong 208 = .ok (.ifCond .eq 42, 3) := by decide +kernel
theorem dX3_firstWrong_211 : decode cX3_firstWrong 211 = .ok (.iload 9, 2) := by decide +kernel
theorem dX3_firstWrong_213 : decode cX3_firstWrong 213 = .ok (.invokestatic 30, 3) := by decide +kernel
theorem dX3_firstWrong_216 : decode cX3_firstWrong 216 = .ok (.iconst 3, 1) := by decide +kernel
theorem dX3_firstWrong_217 : decode cX3_firstWrong 217 = .ok (.if_icmp .eq 33, 3) := by decide +kernel
theorem dX3_firstWrong_220 : decode cX3_firstWrong 220 = .ok (.iload 9, 2) := by decide +kernel
theorem dX3_firstWrong_222 : decode cX3_firstWrong 222 = .ok (.invokestatic 30, 3) := by decide +kernel
theorem dX3_firstWrong_225 : decode cX3_firstWrong 225 = .ok (.iconst 3, 1) := by decide +kernel
theorem dX3_firstWrong_226 : decode cX3_firstWrong 226 = .ok (.if_icmp .ge 15, 3) := by decide +kernel
theorem dX3_firstWrong_229 : decode cX3_firstWrong 229 = .ok (.iload 6, 2) := by decide +kernel
theorem dX3_firstWrong_231 : decode cX3_firstWrong 231 = .ok (.iconst 1, 1) := by decide +kernel
theorem dX3_firstWrong_232 : decode cX3_firstWrong 232 = .ok (.iload 5, 2) := by decide +kernel
theorem dX3_firstWrong_234 : decode cX3_firstWrong 234 = .ok (.ishl, 1) := by decide +kernel
theorem dX3_firstWrong_235 : decode cX3_firstWrong 235 = .ok (.iconst (-1), 1) := by decide +kernel
theorem dX3_firstWrong_236 : decode cX3_firstWrong 236 = .ok (.ixor, 1) := by decide +kernel
theorem dX3_firstWrong_237 : decode cX3_firstWrong 237 = .ok (.iand, 1) := by decide +kernel
theorem dX3_firstWrong_238 : decode cX3_firstWrong 238 = .ok (.goto 5, 3) := by decide +kernel
theorem dX3_firstWrong_241 : decode cX3_firstWrong 241 = .ok (.iload 6, 2) := by decide +kernel
theorem dX3_firstWrong_243 : decode cX3_firstWrong 243 = .ok (.istore 6, 2) := by decide +kernel
theorem dX3_firstWrong_245 : decode cX3_firstWrong 245 = .ok (.iconst 1, 1) := by decide +kernel
theorem dX3_firstWrong_246 : decode cX3_firstWrong 246 = .ok (.istore_n 3, 1) := by decide +kernel
theorem dX3_firstWrong_247 : decode cX3_firstWrong 247 = .ok (.goto 6, 3) := by decide +kernel
theorem dX3_firstWrong_250 : decode cX3_firstWrong 250 = .ok (.iload 8, 2) := by decide +kernel
theorem dX3_firstWrong_252 : decode cX3_firstWrong 252 = .ok (.ireturn, 1) := by decide +kernel
theorem dX3_firstWrong_253 : decode cX3_firstWrong 253 = .ok (.iinc 8 1, 3) := by decide +kernel
theorem dX3_firstWrong_256 : decode cX3_firstWrong 256 = .ok (.goto (-228), 3) := by decide +kernel
theorem dX3_firstWrong_259 : decode cX3_firstWrong 259 = .ok (.iload_n 1, 1) := by decide +kernel
theorem dX3_firstWrong_260 : decode cX3_firstWrong 260 = .ok (.bipush 40, 2) := by decide +kernel
theorem dX3_firstWrong_262 : decode cX3_firstWrong 262 = .ok (.if_icmp .le 6, 3) := by decide +kernel
theorem dX3_firstWrong_265 : decode cX3_firstWrong 265 = .ok (.bipush 40, 2) := by decide +kernel
theorem dX3_firstWrong_267 : decode cX3_firstWrong 267 = .ok (.ireturn, 1) := by decide +kernel
theorem dX3_firstWrong_268 : decode cX3_firstWrong 268 = .ok (.iload_n 3, 1) := by decide +kernel
theorem dX3_firstWrong_269 : decode cX3_firstWrong 269 = .ok (.ifCond .ne 8, 3) := by decide +kernel
theorem dX3_firstWrong_272 : decode cX3_firstWrong 272 = .ok (.iload 5, 2) := by decide +kernel
theorem dX3_firstWrong_274 : decode cX3_firstWrong 274 = .ok (.ifCond .le 7, 3) := by decide +kernel
theorem dX3_firstWrong_277 : decode cX3_firstWrong 277 = .ok (.iload_n 1, 1) := by decide +kernel
theorem dX3_firstWrong_278 : decode cX3_firstWrong 278 = .ok (.goto 4, 3) := by decide +kernel
theorem dX3_firstWrong_281 : decode cX3_firstWrong 281 = .ok (.iconst (-1), 1) := by decide +kernel
theorem dX3_firstWrong_282 : decode cX3_firstWrong 282 = .ok (.ireturn, 1) := by decide +kernel
theorem dX3_isDigit_0 : decode cX3_isDigit 0 = .ok (.iload_n 0, 1) := by decide +kernel
theorem dX3_isDigit_1 : decode cX3_isDigit 1 = .ok (.bipush 48, 2) := by decide +kernel
theorem dX3_isDigit_3 : decode cX3_isDigit 3 = .ok (.if_icmp .lt 13, 3) := by decide +kernel
theorem dX3_isDigit_6 : decode cX3_isDigit 6 = .ok (.iload_n 0, 1) := by decide +kernel
theorem dX3_isDigit_7 : decode cX3_isDigit 7 = .ok (.bipush 57, 2) := by decide +kernel
theorem dX3_isDigit_9 : decode cX3_isDigit 9 = .ok (.if_icmp .gt 7, 3) := by decide +kernel
theorem dX3_isDigit_12 : decode cX3_isDigit 12 = .ok (.iconst 1, 1) := by decide +kernel
theorem dX3_isDigit_13 : decode cX3_isDigit 13 = .ok (.goto 4, 3) := by decide +kernel
theorem dX3_isDigit_16 : decode cX3_isDigit 16 = .ok (.iconst 0, 1) := by decide +kernel
theorem dX3_isDigit_17 : decode cX3_isDigit 17 = .ok (.ireturn, 1) := by decide +kernel
theorem dX3_isThing_0 : decode cX3_isThing 0 = .ok (.ldc 37, 2) := by decide +kernel
theorem dX3_isThing_2 : decode cX3_isThing 2 = .ok (.iload_n 0, 1) := by decide +kernel
theorem dX3_isThing_3 : decode cX3_isThing 3 = .ok (.i2c, 1) := by decide +kernel
theorem dX3_isThing_4 : decode cX3_isThing 4 = .ok (.invokevirtual 39, 3) := by decide +kernel
theorem dX3_isThing_7 : decode cX3_isThing 7 = .ok (.istore_n 2, 1) := by decide +kernel
theorem dX3_isThing_8 : decode cX3_isThing 8 = .ok (.iload_n 2, 1) := by decide +kernel
theorem dX3_isThing_9 : decode cX3_isThing 9 = .ok (.bipush 10, 2) := by decide +kernel
theorem dX3_isThing_11 : decode cX3_isThing 11 = .ok (.if_icmp .ge 13, 3) := by decide +kernel
theorem dX3_isThing_14 : decode cX3_isThing 14 = .ok (.iload_n 2, 1) := by decide +kernel
theorem dX3_isThing_15 : decode cX3_isThing 15 = .ok (.ifCond .lt 7, 3) := by decide +kernel
theorem dX3_isThing_18 : decode cX3_isThing 18 = .ok (.iconst 1, 1) := by decide +kernel
theorem dX3_isThing_19 : decode cX3_isThing 19 = .ok (.goto 4, 3) := by decide +kernel
theorem dX3_isThing_22 : decode cX3_isThing 22 = .ok (.iconst 0, 1) := by decide +kernel
theorem dX3_isThing_23 : decode cX3_isThing 23 = .ok (.ireturn, 1) := by decide +kernel
theorem dX3_isThing_24 : decode cX3_isThing 24 = .ok (.iload_n 1, 1) := by decide +kernel
theorem dX3_isThing_25 : decode cX3_isThing 25 = .ok (.iload_n 2, 1) := by decide +kernel
theorem dX3_isThing_26 : decode cX3_isThing 26 = .ok (.bipush 13, 2) := by decide +kernel
theorem dX3_isThing_28 : decode cX3_isThing 28 = .ok (.if_icmp .eq 7, 3) := by decide +kernel
theorem dX3_isThing_31 : decode cX3_isThing 31 = .ok (.iconst 1, 1) := by decide +kernel
theorem dX3_isThing_32 : decode cX3_isThing 32 = .ok (.goto 4, 3) := by decide +kernel
theorem dX3_isThing_35 : decode cX3_isThing 35 = .ok (.iconst 0, 1) := by decide +kernel
theorem dX3_isThing_36 : decode cX3_isThing 36 = .ok (.if_icmp .ne 7, 3) := by decide +kernel
theorem dX3_isThing_39 : decode cX3_isThing 39 = .ok (.iconst 1, 1) := by decide +kernel
theorem dX3_isThing_40 : decode cX3_isThing 40 = .ok (.goto 4, 3) := by decide +kernel
theorem dX3_isThing_43 : decode cX3_isThing 43 = .ok (.iconst 0, 1) := by decide +kernel
theorem dX3_isThing_44 : decode cX3_isThing 44 = .ok (.ireturn, 1) := by decide +kernel
theorem dX3_isJoining_0 : decode cX3_isJoining 0 = .ok (.iload_n 0, 1) := by decide +kernel
theorem dX3_isJoining_1 : decode cX3_isJoining 1 = .ok (.invokestatic 30, 3) := by decide +kernel
theorem dX3_isJoining_4 : decode cX3_isJoining 4 = .ok (.iconst 1, 1) := by decide +kernel
theorem dX3_isJoining_5 : decode cX3_isJoining 5 = .ok (.iconst 5, 1) := by decide +kernel
theorem dX3_isJoining_6 : decode cX3_isJoining 6 = .ok (.invokestatic 44, 3) := by decide +kernel
theorem dX3_isJoining_9 : decode cX3_isJoining 9 = .ok (.ireturn, 1) := by decide +kernel
theorem dX3_strength_0 : decode cX3_strength 0 = .ok (.iload_n 0, 1) := by decide +kernel
theorem dX3_strength_1 : decode cX3_strength 1 = .ok (.lookupswitch 104 #[(33, 101), (38, 93), (42, 99), (43, 97), (45, 97), (60, 95), (61, 95), (62, 95), (124, 91), (126, 101)], 91) := by decide +kernel
theorem dX3_strength_92 : decode cX3_strength 92 = .ok (.iconst 1, 1) := by decide +kernel
theorem dX3_strength_93 : decode cX3_strength 93 = .ok (.ireturn, 1) := by decide +kernel
theorem dX3_strength_94 : decode cX3_strength 94 = .ok (.iconst 2, 1) := by decide +kernel
theorem dX3_strength_95 : decode cX3_strength 95 = .ok (.ireturn, 1) := by decide +kernel
theorem dX3_strength_96 : decode cX3_strength 96 = .ok (.iconst 3, 1) := by decide +kernel
theorem dX3_strength_97 : decode cX3_strength 97 = .ok (.ireturn, 1) := by decide +kernel
theorem dX3_strength_98 : decode cX3_strength 98 = .ok (.iconst 4, 1) := by decide +kernel
theorem dX3_strength_99 : decode cX3_strength 99 = .ok (.ireturn, 1) := by decide +kernel
theorem dX3_strength_100 : decode cX3_strength 100 = .ok (.iconst 5, 1) := by decide +kernel
theorem dX3_strength_101 : decode cX3_strength 101 = .ok (.ireturn, 1) := by decide +kernel
theorem dX3_strength_102 : decode cX3_strength 102 = .ok (.bipush 6, 2) := by decide +kernel
theorem dX3_strength_104 : decode cX3_strength 104 = .ok (.ireturn, 1) := by decide +kernel
theorem dX3_strength_105 : decode cX3_strength 105 = .ok (.iconst 0, 1) := by decide +kernel
theorem dX3_strength_106 : decode cX3_strength 106 = .ok (.ireturn, 1) := by decide +kernel
theorem dX3_become_0 : decode cX3_become 0 = .ok (.aload_n 0, 1) := by decide +kernel
theorem dX3_become_1 : decode cX3_become 1 = .ok (.iconst 0, 1) := by decide +kernel
theorem dX3_become_2 : decode cX3_become 2 = .ok (.putfield 18, 3) := by decide +kernel
theorem dX3_become_5 : decode cX3_become 5 = .ok (.aload_n 0, 1) := by decide +kernel
theorem dX3_become_6 : decode cX3_become 6 = .ok (.iconst 0, 1) := by decide +kernel
theorem dX3_become_7 : decode cX3_become 7 = .ok (.putfield 48, 3) := by decide +kernel
theorem dX3_become_10 : decode cX3_become 10 = .ok (.iconst 1, 1) := by decide +kernel
theorem dX3_become_11 : decode cX3_become 11 = .ok (.istore_n 3, 1) := by decide +kernel
theorem dX3_become_12 : decode cX3_become 12 = .ok (.iconst 0, 1) := by decide +kernel
theorem dX3_become_13 : decode cX3_become 13 = .ok (.istore 4, 2) := by decide +kernel
theorem dX3_become_15 : decode cX3_become 15 = .ok (.iload 4, 2) := by decide +kernel
theorem dX3_become_17 : decode cX3_become 17 = .ok (.iload_n 2, 1) := by decide +kernel
theorem dX3_become_18 : decode cX3_become 18 = .ok (.if_icmp .ge 168, 3) := by decide +kernel
theorem dX3_become_21 : decode cX3_become 21 = .ok (.aload_n 1, 1) := by decide +kernel
theorem dX3_become_22 : decode cX3_become 22 = .ok (.iload 4, 2) := by decide +kernel
theorem dX3_become_24 : decode cX3_become 24 = .ok (.iaload, 1) := by decide +kernel
theorem dX3_become_25 : decode cX3_become 25 = .ok (.istore 5, 2) := by decide +kernel
theorem dX3_become_27 : decode cX3_become 27 = .ok (.iload 5, 2) := by decide +kernel
theorem dX3_become_29 : decode cX3_become 29 = .ok (.invokestatic 22, 3) := by decide +kernel
theorem dX3_become_32 : decode cX3_become 32 = .ok (.ifCond .eq 39, 3) := by decide +kernel
theorem dX3_become_35 : decode cX3_become 35 = .ok (.aload_n 0, 1) := by decide +kernel
theorem dX3_become_36 : decode cX3_become 36 = .ok (.iload 5, 2) := by decide +kernel
theorem dX3_become_38 : decode cX3_become 38 = .ok (.bipush 48, 2) := by decide +kernel
theorem dX3_become_40 : decode cX3_become 40 = .ok (.isub, 1) := by decide +kernel
theorem dX3_become_41 : decode cX3_become 41 = .ok (.iload 4, 2) := by decide +kernel
theorem dX3_become_43 : decode cX3_become 43 = .ok (.ifCond .le 19, 3) := by decide +kernel
theorem dX3_become_46 : decode cX3_become 46 = .ok (.aload_n 1, 1) := by decide +kernel
theorem dX3_become_47 : decode cX3_become 47 = .ok (.iload 4, 2) := by decide +kernel
theorem dX3_become_49 : decode cX3_become 49 = .ok (.iconst 1, 1) := by decide +kernel
theorem dX3_become_50 : decode cX3_become 50 = .ok (.isub, 1) := by decide +kernel
theorem dX3_become_51 : decode cX3_become 51 = .ok (.iaload, 1) := by decide +kernel
theorem dX3_become_52 : decode cX3_become 52 = .ok (.invokestatic 22, 3) := by decide +kernel
theorem dX3_become_55 : decode cX3_become 55 = .ok (.ifCond .eq 7, 3) := by decide +kernel
theorem dX3_become_58 : decode cX3_become 58 = .ok (.iconst 1, 1) := by decide +kernel
theorem dX3_become_59 : decode cX3_become 59 = .ok (.goto 4, 3) := by decide +kernel
theorem dX3_become_62 : decode cX3_become 62 = .ok (.iconst 0, 1) := by decide +kernel
theorem dX3_become_63 : decode cX3_become 63 = .ok (.invokevirtual 51, 3) := by decide +kernel
theorem dX3_become_66 : decode cX3_become 66 = .ok (.iconst 0, 1) := by decide +kernel
theorem dX3_become_67 : decode cX3_become 67 = .ok (.istore_n 3, 1) := by decide +kernel
theorem dX3_become_68 : decode cX3_become 68 = .ok (.goto 112, 3) := by decide +kernel
theorem dX3_become_71 : decode cX3_become 71 = .ok (.iload 5, 2) := by decide +kernel
theorem dX3_become_73 : decode cX3_become 73 = .ok (.bipush 40, 2) := by decide +kernel
theorem dX3_become_75 : decode cX3_become 75 = .ok (.if_icmp .eq 10, 3) := by decide +kernel
theorem dX3_become_78 : decode cX3_become 78 = .ok (.iload 5, 2) := by decide +kernel
theorem dX3_become_80 : decode cX3_become 80 = .ok (.bipush 33, 2) := by decide +kernel
theorem dX3_become_82 : decode cX3_become 82 = .ok (.if_icmp .ne 12, 3) := by decide +kernel
theorem dX3_become_85 : decode cX3_become 85 = .ok (.aload_n 0, 1) := by decide +kernel
theorem dX3_become_86 : decode cX3_become 86 = .ok (.iload 5, 2) := by decide +kernel
theorem dX3_become_88 : decode cX3_become 88 = .ok (.invokevirtual 55, 3) := by decide +kernel
theorem dX3_become_91 : decode cX3_become 91 = .ok (.goto 89, 3) := by decide +kernel
theorem dX3_become_94 : decode cX3_become 94 = .ok (.iload 5, 2) := by decide +kernel
theorem dX3_become_96 : decode cX3_become 96 = .ok (.bipush 45, 2) := by decide +kernel
theorem dX3_become_98 : decode cX3_become 98 = .ok (.if_icmp .ne 16, 3) := by decide +kernel
theorem dX3_become_101 : decode cX3_become 101 = .ok (.iload_n 3, 1) := by decide +kernel
theorem dX3_become_102 : decode cX3_become 102 = .ok (.ifCond .eq 12, 3) := by decide +kernel
theorem dX3_become_105 : decode cX3_become 105 = .ok (.aload_n 0, 1) := by decide +kernel
theorem dX3_become_106 : decode cX3_become 106 = .ok (.bipush 126, 2) := by decide +kernel
theorem dX3_become_108 : decode cX3_become 108 = .ok (.invokevirtual 55, 3) := by decide +kernel
theorem dX3_become_111 : decode cX3_become 111 = .ok (.goto 69, 3) := by decide +kernel
theorem dX3_become_114 : decode cX3_become 114 = .ok (.iload 5, 2) := by decide +kernel
theorem dX3_become_116 : decode cX3_become 116 = .ok (.bipush 41, 2) := by decide +kernel
theorem dX3_become_118 : decode cX3_become 118 = .ok (.if_icmp .ne 16, 3) := by decide +kernel
theorem dX3_become_121 : decode cX3_become 121 = .ok (.aload_n 0, 1) := by decide +kernel
theorem dX3_become_122 : decode cX3_become 122 = .ok (.iconst 1, 1) := by decide +kernel
theorem dX3_become_123 : decode cX3_become 123 = .ok (.invokevirtual 59, 3) := by decide +kernel
theorem dX3_become_126 : decode cX3_become 126 = .ok (.aload_n 0, 1) := by decide +kernel
theorem dX3_become_127 : decode cX3_become 127 = .ok (.invokevirtual 62, 3) := by decide +kernel
theorem dX3_become_130 : decode cX3_become 130 = .ok (.pop, 1) := by decide +kernel
theorem dX3_become_131 : decode cX3_become 131 = .ok (.goto 49, 3) := by decide +kernel
theorem dX3_become_134 : decode cX3_become 134 = .ok (.iload 5, 2) := by decide +kernel
theorem dX3_become_136 : decode cX3_become 136 = .ok (.invokestatic 34, 3) := by decide +kernel
theorem dX3_become_139 : decode cX3_become 139 = .ok (.ifCond .eq 23, 3) := by decide +kernel
theorem dX3_become_142 : decode cX3_become 142 = .ok (.aload_n 0, 1) := by decide +kernel
theorem dX3_become_143 : decode cX3_become 143 = .ok (.iload 5, 2) := by decide +kernel
theorem dX3_become_145 : decode cX3_become 145 = .ok (.invokestatic 30, 3) := by decide +kernel
theorem dX3_become_148 : decode cX3_become 148 = .ok (.invokevirtual 59, 3) := by decide +kernel
theorem dX3_become_151 : decode cX3_become 151 = .ok (.aload_n 0, 1) := by decide +kernel
theorem dX3_become_152 : decode cX3_become 152 = .ok (.iload 5, 2) := by decide +kernel
theorem dX3_become_154 : decode cX3_become 154 = .ok (.invokevirtual 55, 3) := by decide +kernel
theorem dX3_become_157 : decode cX3_become 157 = .ok (.iconst 1, 1) := by decide +kernel
theorem dX3_become_158 : decode cX3_become 158 = .ok (.istore_n 3, 1) := by decide +kernel
theorem dX3_become_159 : decode cX3_become 159 = .ok (.goto 21, 3) := by decide +kernel
theorem dX3_become_162 : decode cX3_become 162 = .ok (.aload_n 0, 1) := by decide +kernel
theorem dX3_become_163 : decode cX3_become 163 = .ok (.sipush 1000, 3) := by decide +kernel
theorem dX3_become_166 : decode cX3_become 166 = .ok (.ldc 37, 2) := by decide +kernel
theorem dX3_become_168 : decode cX3_become 168 = .ok (.iload 5, 2) := by decide +kernel
theorem dX3_become_170 : decode cX3_become 170 = .ok (.i2c, 1) := by decide +kernel
theorem dX3_become_171 : decode cX3_become 171 = .ok (.invokevirtual 39, 3) := by decide +kernel
theorem dX3_become_174 : decode cX3_become 174 = .ok (.iadd, 1) := by decide +kernel
theorem dX3_become_175 : decode cX3_become 175 = .ok (.invokevirtual 66, 3) := by decide +kernel
theorem dX3_become_178 : decode cX3_become 178 = .ok (.iconst 0, 1) := by decide +kernel
theorem dX3_become_179 : decode cX3_become 179 = .ok (.istore_n 3, 1) := by decide +kernel
theorem dX3_become_180 : decode cX3_become 180 = .ok (.iinc 4 1, 3) := by decide +kernel
theorem dX3_become_183 : decode cX3_become 183 = .ok (.goto (-168), 3) := by decide +kernel
theorem dX3_become_186 : decode cX3_become 186 = .ok (.aload_n 0, 1) := by decide +kernel
theorem dX3_become_187 : decode cX3_become 187 = .ok (.iconst 1, 1) := by decide +kernel
theorem dX3_become_188 : decode cX3_become 188 = .ok (.invokevirtual 59, 3) := by decide +kernel
theorem dX3_become_191 : decode cX3_become 191 = .ok (.return_, 1) := by decide +kernel
theorem dX3_putDigit_0 : decode cX3_putDigit 0 = .ok (.iload_n 2, 1) := by decide +kernel
theorem dX3_putDigit_1 : decode cX3_putDigit 1 = .ok (.ifCond .eq 40, 3) := by decide +kernel
theorem dX3_putDigit_4 : decode cX3_putDigit 4 = .ok (.aload_n 0, 1) := by decide +kernel
theorem dX3_putDigit_5 : decode cX3_putDigit 5 = .ok (.getfield 18, 3) := by decide +kernel
theorem dX3_putDigit_8 : decode cX3_putDigit 8 = .ok (.ifCond .le 33, 3) := by decide +kernel
theorem dX3_putDigit_11 : decode cX3_putDigit 11 = .ok (.aload_n 0, 1) := by decide +kernel
theorem dX3_putDigit_12 : decode cX3_putDigit 12 = .ok (.getfield 11, 3) := by decide +kernel
theorem dX3_putDigit_15 : decode cX3_putDigit 15 = .ok (.aload_n 0, 1) := by decide +kernel
theorem dX3_putDigit_16 : decode cX3_putDigit 16 = .ok (.getfield 18, 3) := by decide +kernel
theorem dX3_putDigit_19 : decode cX3_putDigit 19 = .ok (.iconst 1, 1) := by decide +kernel
theorem dX3_putDigit_20 : decode cX3_putDigit 20 = .ok (.isub, 1) := by decide +kernel
theorem dX3_putDigit_21 : decode cX3_putDigit 21 = .ok (.aload_n 0, 1) := by decide +kernel
theorem dX3_putDigit_22 : decode cX3_putDigit 22 = .ok (.getfield 11, 3) := by decide +kernel
theorem dX3_putDigit_25 : decode cX3_putDigit 25 = .ok (.aload_n 0, 1) := by decide +kernel
theorem dX3_putDigit_26 : decode cX3_putDigit 26 = .ok (.getfield 18, 3) := by decide +kernel
theorem dX3_putDigit_29 : decode cX3_putDigit 29 = .ok (.iconst 1, 1) := by decide +kernel
theorem dX3_putDigit_30 : decode cX3_putDigit 30 = .ok (.isub, 1) := by decide +kernel
theorem dX3_putDigit_31 : decode cX3_putDigit 31 = .ok (.iaload, 1) := by decide +kernel
theorem dX3_putDigit_32 : decode cX3_putDigit 32 = .ok (.bipush 10, 2) := by decide +kernel
theorem dX3_putDigit_34 : decode cX3_putDigit 34 = .ok (.imul, 1) := by decide +kernel
theorem dX3_putDigit_35 : decode cX3_putDigit 35 = .ok (.iload_n 1, 1) := by decide +kernel
theorem dX3_putDigit_36 : decode cX3_putDigit 36 = .ok (.iadd, 1) := by decide +kernel
theorem dX3_putDigit_37 : decode cX3_putDigit 37 = .ok (.iastore, 1) := by decide +kernel
theorem dX3_putDigit_38 : decode cX3_putDigit 38 = .ok (.goto 8, 3) := by decide +kernel
theorem dX3_putDigit_41 : decode cX3_putDigit 41 = .ok (.aload_n 0, 1) := by decide +kernel
theorem dX3_putDigit_42 : decode cX3_putDigit 42 = .ok (.iload_n 1, 1) := by decide +kernel
theorem dX3_putDigit_43 : decode cX3_putDigit 43 = .ok (.invokevirtual 66, 3) := by decide +kernel
theorem dX3_putDigit_46 : decode cX3_putDigit 46 = .ok (.return_, 1) := by decide +kernel
theorem dX3_putStronger_0 : decode cX3_putStronger 0 = .ok (.aload_n 0, 1) := by decide +kernel
theorem dX3_putStronger_1 : decode cX3_putStronger 1 = .ok (.getfield 48, 3) := by decide +kernel
theorem dX3_putStronger_4 : decode cX3_putStronger 4 = .ok (.istore_n 2, 1) := by decide +kernel
theorem dX3_putStronger_5 : decode cX3_putStronger 5 = .ok (.iload_n 2, 1) := by decide +kernel
theorem dX3_putStronger_6 : decode cX3_putStronger 6 = .ok (.ifCond .le 33, 3) := by decide +kernel
theorem dX3_putStronger_9 : decode cX3_putStronger 9 = .ok (.aload_n 0, 1) := by decide +kernel
theorem dX3_putStronger_10 : decode cX3_putStronger 10 = .ok (.getfield 15, 3) := by decide +kernel
theorem dX3_putStronger_13 : decode cX3_putStronger 13 = .ok (.iload_n 2, 1) := by decide +kernel
theorem dX3_putStronger_14 : decode cX3_putStronger 14 = .ok (.iconst 1, 1) := by decide +kernel
theorem dX3_putStronger_15 : decode cX3_putStronger 15 = .ok (.isub, 1) := by decide +kernel
theorem dX3_putStronger_16 : decode cX3_putStronger 16 = .ok (.iaload, 1) := by decide +kernel
theorem dX3_putStronger_17 : decode cX3_putStronger 17 = .ok (.invokestatic 30, 3) := by decide +kernel
theorem dX3_putStronger_20 : decode cX3_putStronger 20 = .ok (.iload_n 1, 1) := by decide +kernel
theorem dX3_putStronger_21 : decode cX3_putStronger 21 = .ok (.if_icmp .lt 18, 3) := by decide +kernel
theorem dX3_putStronger_24 : decode cX3_putStronger 24 = .ok (.aload_n 0, 1) := by decide +kernel
theorem dX3_putStronger_25 : decode cX3_putStronger 25 = .ok (.aload_n 0, 1) := by decide +kernel
theorem dX3_putStronger_26 : decode cX3_putStronger 26 = .ok (.invokevirtual 62, 3) := by decide +kernel
theorem dX3_putStronger_29 : decode cX3_putStronger 29 = .ok (.ineg, 1) := by decide +kernel
theorem dX3_putStronger_30 : decode cX3_putStronger 30 = .ok (.invokevirtual 66, 3) := by decide +kernel
theorem dX3_putStronger_33 : decode cX3_putStronger 33 = .ok (.iinc 2 (-1), 3) := by decide +kernel
theorem dX3_putStronger_36 : decode cX3_putStronger 36 = .ok (.goto (-31), 3) := by decide +kernel
theorem dX3_putStronger_39 : decode cX3_putStronger 39 = .ok (.return_, 1) := by decide +kernel
theorem dX3_put_0 : decode cX3_put 0 = .ok (.aload_n 0, 1) := by decide +kernel
theorem dX3_put_1 : decode cX3_put 1 = .ok (.getfield 18, 3) := by decide +kernel
theorem dX3_put_4 : decode cX3_put 4 = .ok (.bipush 40, 2) := by decide +kernel
theorem dX3_put_6 : decode cX3_put 6 = .ok (.if_icmp .ge 23, 3) := by decide +kernel
theorem dX3_put_9 : decode cX3_put 9 = .ok (.aload_n 0, 1) := by decide +kernel
theorem dX3_put_10 : decode cX3_put 10 = .ok (.getfield 11, 3) := by decide +kernel
theorem dX3_put_13 : decode cX3_put 13 = .ok (.aload_n 0, 1) := by decide +kernel
theorem dX3_put_14 : decode cX3_put 14 = .ok (.getfield 18, 3) := by decide +kernel
theorem dX3_put_17 : decode cX3_put 17 = .ok (.iload_n 1, 1) := by decide +kernel
theorem dX3_put_18 : decode cX3_put 18 = .ok (.iastore, 1) := by decide +kernel
theorem dX3_put_19 : decode cX3_put 19 = .ok (.aload_n 0, 1) := by decide +kernel
theorem dX3_put_20 : decode cX3_put 20 = .ok (.dup, 1) := by decide +kernel
theorem dX3_put_21 : decode cX3_put 21 = .ok (.getfield 18, 3) := by decide +kernel
theorem dX3_put_24 : decode cX3_put 24 = .ok (.iconst 1, 1) := by decide +kernel
theorem dX3_put_25 : decode cX3_put 25 = .ok (.iadd, 1) := by decide +kernel
theorem dX3_put_26 : decode cX3_put 26 = .ok (.putfield 18, 3) := by decide +kernel
theorem dX3_put_29 : decode cX3_put 29 = .ok (.return_, 1) := by decide +kernel
theorem dX3_push_0 : decode cX3_push 0 = .ok (.aload_n 0, 1) := by decide +kernel
theorem dX3_push_1 : decode cX3_push 1 = .ok (.getfield 48, 3) := by decide +kernel
theorem dX3_push_4 : decode cX3_push 4 = .ok (.bipush 40, 2) := by decide +kernel
theorem dX3_push_6 : decode cX3_push 6 = .ok (.if_icmp .ge 23, 3) := by decide +kernel
theorem dX3_push_9 : decode cX3_push 9 = .ok (.aload_n 0, 1) := by decide +kernel
theorem dX3_push_10 : decode cX3_push 10 = .ok (.getfield 15, 3) := by decide +kernel
theorem dX3_push_13 : decode cX3_push 13 = .ok (.aload_n 0, 1) := by decide +kernel
theorem dX3_push_14 : decode cX3_push 14 = .ok (.getfield 48, 3) := by decide +kernel
theorem dX3_push_17 : decode cX3_push 17 = .ok (.iload_n 1, 1) := by decide +kernel
theorem dX3_push_18 : decode cX3_push 18 = .ok (.iastore, 1) := by decide +kernel
theorem dX3_push_19 : decode cX3_push 19 = .ok (.aload_n 0, 1) := by decide +kernel
theorem dX3_push_20 : decode cX3_push 20 = .ok (.dup, 1) := by decide +kernel
theorem dX3_push_21 : decode cX3_push 21 = .ok (.getfield 48, 3) := by decide +kernel
theorem dX3_push_24 : decode cX3_push 24 = .ok (.iconst 1, 1) := by decide +kernel
theorem dX3_push_25 : decode cX3_push 25 = .ok (.iadd, 1) := by decide +kernel
theorem dX3_push_26 : decode cX3_push 26 = .ok (.putfield 48, 3) := by decide +kernel
theorem dX3_push_29 : decode cX3_push 29 = .ok (.return_, 1) := by decide +kernel
theorem dX3_pop_0 : decode cX3_pop 0 = .ok (.aload_n 0, 1) := by decide +kernel
theorem dX3_pop_1 : decode cX3_pop 1 = .ok (.getfield 48, 3) := by decide +kernel
theorem dX3_pop_4 : decode cX3_pop 4 = .ok (.ifCond .ne 5, 3) := by decide +kernel
theorem dX3_pop_7 : decode cX3_pop 7 = .ok (.iconst 0, 1) := by decide +kernel
theorem dX3_pop_8 : decode cX3_pop 8 = .ok (.ireturn, 1) := by decide +kernel
theorem dX3_pop_9 : decode cX3_pop 9 = .ok (.aload_n 0, 1) := by decide +kernel
theorem dX3_pop_10 : decode cX3_pop 10 = .ok (.dup, 1) := by decide +kernel
theorem dX3_pop_11 : decode cX3_pop 11 = .ok (.getfield 48, 3) := by decide +kernel
theorem dX3_pop_14 : decode cX3_pop 14 = .ok (.iconst 1, 1) := by decide +kernel
theorem dX3_pop_15 : decode cX3_pop 15 = .ok (.isub, 1) := by decide +kernel
theorem dX3_pop_16 : decode cX3_pop 16 = .ok (.putfield 48, 3) := by decide +kernel
theorem dX3_pop_19 : decode cX3_pop 19 = .ok (.aload_n 0, 1) := by decide +kernel
theorem dX3_pop_20 : decode cX3_pop 20 = .ok (.getfield 15, 3) := by decide +kernel
theorem dX3_pop_23 : decode cX3_pop 23 = .ok (.aload_n 0, 1) := by decide +kernel
theorem dX3_pop_24 : decode cX3_pop 24 = .ok (.getfield 48, 3) := by decide +kernel
theorem dX3_pop_27 : decode cX3_pop 27 = .ok (.iaload, 1) := by decide +kernel
theorem dX3_pop_28 : decode cX3_pop 28 = .ok (.ireturn, 1) := by decide +kernel
theorem dX3_result_0 : decode cX3_result 0 = .ok (.aload_n 0, 1) := by decide +kernel
theorem dX3_result_1 : decode cX3_result 1 = .ok (.iconst 0, 1) := by decide +kernel
theorem dX3_result_2 : decode cX3_result 2 = .ok (.putfield 48, 3) := by decide +kernel
theorem dX3_result_5 : decode cX3_result 5 = .ok (.iconst 0, 1) := by decide +kernel
theorem dX3_result_6 : decode cX3_result 6 = .ok (.istore_n 2, 1) := by decide +kernel
theorem dX3_result_7 : decode cX3_result 7 = .ok (.iload_n 2, 1) := by decide +kernel
theorem dX3_result_8 : decode cX3_result 8 = .ok (.aload_n 0, 1) := by decide +kernel
theorem dX3_result_9 : decode cX3_result 9 = .ok (.getfield 18, 3) := by decide +kernel
theorem dX3_result_12 : decode cX3_result 12 = .ok (.if_icmp .ge 65, 3) := by decide +kernel
theorem dX3_result_15 : decode cX3_result 15 = .ok (.aload_n 0, 1) := by decide +kernel
theorem dX3_result_16 : decode cX3_result 16 = .ok (.getfield 11, 3) := by decide +kernel
theorem dX3_result_19 : decode cX3_result 19 = .ok (.iload_n 2, 1) := by decide +kernel
theorem dX3_result_20 : decode cX3_result 20 = .ok (.iaload, 1) := by decide +kernel
theorem dX3_result_21 : decode cX3_result 21 = .ok (.istore_n 3, 1) := by decide +kernel
theorem dX3_result_22 : decode cX3_result 22 = .ok (.iload_n 3, 1) := by decide +kernel
theorem dX3_result_23 : decode cX3_result 23 = .ok (.ifCond .ge 12, 3) := by decide +kernel
theorem dX3_result_26 : decode cX3_result 26 = .ok (.aload_n 0, 1) := by decide +kernel
theorem dX3_result_27 : decode cX3_result 27 = .ok (.iload_n 3, 1) := by decide +kernel
theorem dX3_result_28 : decode cX3_result 28 = .ok (.ineg, 1) := by decide +kernel
theorem dX3_result_29 : decode cX3_result 29 = .ok (.invokevirtual 69, 3) := by decide +kernel
theorem dX3_result_32 : decode cX3_result 32 = .ok (.goto 39, 3) := by decide +kernel
theorem dX3_result_35 : decode cX3_result 35 = .ok (.iload_n 3, 1) := by decide +kernel
theorem dX3_result_36 : decode cX3_result 36 = .ok (.sipush 1000, 3) := by decide +kernel
theorem dX3_result_39 : decode cX3_result 39 = .ok (.if_icmp .ge 11, 3) := by decide +kernel
theorem dX3_result_42 : decode cX3_result 42 = .ok (.aload_n 0, 1) := by decide +kernel
theorem dX3_result_43 : decode cX3_result 43 = .ok (.iload_n 3, 1) := by decide +kernel
theorem dX3_result_44 : decode cX3_result 44 = .ok (.invokevirtual 55, 3) := by decide +kernel
theorem dX3_result_47 : decode cX3_result 47 = .ok (.goto 24, 3) := by decide +kernel
theorem dX3_result_50 : decode cX3_result 50 = .ok (.iload_n 3, 1) := by decide +kernel
theorem dX3_result_51 : decode cX3_result 51 = .ok (.sipush 1000, 3) := by decide +kernel
theorem dX3_result_54 : decode cX3_result 54 = .ok (.isub, 1) := by decide +kernel
theorem dX3_result_55 : decode cX3_result 55 = .ok (.aload_n 1, 1) := by decide +kernel
theorem dX3_result_56 : decode cX3_result 56 = .ok (.arraylength, 1) := by decide +kernel
theorem dX3_result_57 : decode cX3_result 57 = .ok (.if_icmp .ge 14, 3) := by decide +kernel
theorem dX3_result_60 : decode cX3_result 60 = .ok (.aload_n 0, 1) := by decide +kernel
theorem dX3_result_61 : decode cX3_result 61 = .ok (.aload_n 1, 1) := by decide +kernel
theorem dX3_result_62 : decode cX3_result 62 = .ok (.iload_n 3, 1) := by decide +kernel
theorem dX3_result_63 : decode cX3_result 63 = .ok (.sipush 1000, 3) := by decide +kernel
theorem dX3_result_66 : decode cX3_result 66 = .ok (.isub, 1) := by decide +kernel
theorem dX3_result_67 : decode cX3_result 67 = .ok (.iaload, 1) := by decide +kernel
theorem dX3_result_68 : decode cX3_result 68 = .ok (.invokevirtual 55, 3) := by decide +kernel
theorem dX3_result_71 : decode cX3_result 71 = .ok (.iinc 2 1, 3) := by decide +kernel
theorem dX3_result_74 : decode cX3_result 74 = .ok (.goto (-67), 3) := by decide +kernel
theorem dX3_result_77 : decode cX3_result 77 = .ok (.aload_n 0, 1) := by decide +kernel
theorem dX3_result_78 : decode cX3_result 78 = .ok (.invokevirtual 62, 3) := by decide +kernel
theorem dX3_result_81 : decode cX3_result 81 = .ok (.ireturn, 1) := by decide +kernel
theorem dX3_operate_0 : decode cX3_operate 0 = .ok (.aload_n 0, 1) := by decide +kernel
theorem dX3_operate_1 : decode cX3_operate 1 = .ok (.invokevirtual 62, 3) := by decide +kernel
theorem dX3_operate_4 : decode cX3_operate 4 = .ok (.istore_n 2, 1) := by decide +kernel
theorem dX3_operate_5 : decode cX3_operate 5 = .ok (.iload_n 1, 1) := by decide +kernel
theorem dX3_operate_6 : decode cX3_operate 6 = .ok (.bipush 33, 2) := by decide +kernel
theorem dX3_operate_8 : decode cX3_operate 8 = .ok (.if_icmp .ne 19, 3) := by decide +kernel
theorem dX3_operate_11 : decode cX3_operate 11 = .ok (.aload_n 0, 1) := by decide +kernel
theorem dX3_operate_12 : decode cX3_operate 12 = .ok (.iload_n 2, 1) := by decide +kernel
theorem dX3_operate_13 : decode cX3_operate 13 = .ok (.ifCond .ne 7, 3) := by decide +kernel
theorem dX3_operate_16 : decode cX3_operate 16 = .ok (.iconst 1, 1) := by decide +kernel
theorem dX3_operate_17 : decode cX3_operate 17 = .ok (.goto 4, 3) := by decide +kernel
theorem dX3_operate_20 : decode cX3_operate 20 = .ok (.iconst 0, 1) := by decide +kernel
theorem dX3_operate_21 : decode cX3_operate 21 = .ok (.invokevirtual 55, 3) := by decide +kernel
theorem dX3_operate_24 : decode cX3_operate 24 = .ok (.goto 31, 3) := by decide +kernel
theorem dX3_operate_27 : decode cX3_operate 27 = .ok (.iload_n 1, 1) := by decide +kernel
theorem dX3_operate_28 : decode cX3_operate 28 = .ok (.bipush 126, 2) := by decide +kernel
theorem dX3_operate_30 : decode cX3_operate 30 = .ok (.if_icmp .ne 12, 3) := by decide +kernel
theorem dX3_operate_33 : decode cX3_operate 33 = .ok (.aload_n 0, 1) := by decide +kernel
theorem dX3_operate_34 : decode cX3_operate 34 = .ok (.iload_n 2, 1) := by decide +kernel
theorem dX3_operate_35 : decode cX3_operate 35 = .ok (.ineg, 1) := by decide +kernel
theorem dX3_operate_36 : decode cX3_operate 36 = .ok (.invokevirtual 55, 3) := by decide +kernel
theorem dX3_operate_39 : decode cX3_operate 39 = .ok (.goto 16, 3) := by decide +kernel
theorem dX3_operate_42 : decode cX3_operate 42 = .ok (.aload_n 0, 1) := by decide +kernel
theorem dX3_operate_43 : decode cX3_operate 43 = .ok (.aload_n 0, 1) := by decide +kernel
theorem dX3_operate_44 : decode cX3_operate 44 = .ok (.invokevirtual 62, 3) := by decide +kernel
theorem dX3_operate_47 : decode cX3_operate 47 = .ok (.iload_n 1, 1) := by decide +kernel
theorem dX3_operate_48 : decode cX3_operate 48 = .ok (.iload_n 2, 1) := by decide +kernel
theorem dX3_operate_49 : decode cX3_operate 49 = .ok (.invokestatic 72, 3) := by decide +kernel
theorem dX3_operate_52 : decode cX3_operate 52 = .ok (.invokevirtual 55, 3) := by decide +kernel
theorem dX3_operate_55 : decode cX3_operate 55 = .ok (.return_, 1) := by decide +kernel
theorem dX3_joined_0 : decode cX3_joined 0 = .ok (.iload_n 1, 1) := by decide +kernel
theorem dX3_joined_1 : decode cX3_joined 1 = .ok (.lookupswitch 136 #[(38, 81), (43, 128), (45, 132), (60, 95), (61, 117), (62, 106), (124, 67)], 67) := by decide +kernel
theorem dX3_joined_68 : decode cX3_joined 68 = .ok (.iload_n 0, 1) := by decide +kernel
theorem dX3_joined_69 : decode cX3_joined 69 = .ok (.ifCond .ne 7, 3) := by decide +kernel
theorem dX3_joined_72 : decode cX3_joined 72 = .ok (.iload_n 2, 1) := by decide +kernel
theorem dX3_joined_73 : decode cX3_joined 73 = .ok (.ifCond .eq 7, 3) := by decide +kernel
theorem dX3_joined_76 : decode cX3_joined 76 = .ok (.iconst 1, 1) := by decide +kernel
theorem dX3_joined_77 : decode cX3_joined 77 = .ok (.goto 4, 3) := by decide +kernel
theorem dX3_joined_80 : decode cX3_joined 80 = .ok (.iconst 0, 1) := by decide +kernel
theorem dX3_joined_81 : decode cX3_joined 81 = .ok (.ireturn, 1) := by decide +kernel
theorem dX3_joined_82 : decode cX3_joined 82 = .ok (.iload_n 0, 1) := by decide +kernel
theorem dX3_joined_83 : decode cX3_joined 83 = .ok (.ifCond .eq 11, 3) := by decide +kernel
theorem dX3_joined_86 : decode cX3_joined 86 = .ok (.iload_n 2, 1) := by decide +kernel
theorem dX3_joined_87 : decode cX3_joined 87 = .ok (.ifCond .eq 7, 3) := by decide +kernel
theorem dX3_joined_90 : decode cX3_joined 90 = .ok (.iconst 1, 1) := by decide +kernel
theorem dX3_joined_91 : decode cX3_joined 91 = .ok (.goto 4, 3) := by decide +kernel
theorem dX3_joined_94 : decode cX3_joined 94 = .ok (.iconst 0, 1) := by decide +kernel
theorem dX3_joined_95 : decode cX3_joined 95 = .ok (.ireturn, 1) := by decide +kernel
theorem dX3_joined_96 : decode cX3_joined 96 = .ok (.iload_n 0, 1) := by decide +kernel
theorem dX3_joined_97 : decode cX3_joined 97 = .ok (.iload_n 2, 1) := by decide +kernel
theorem dX3_joined_98 : decode cX3_joined 98 = .ok (.if_icmp .ge 7, 3) := by decide +kernel
theorem dX3_joined_101 : decode cX3_joined 101 = .ok (.iconst 1, 1) := by decide +kernel
theorem dX3_joined_102 : decode cX3_joined 102 = .ok (.goto 4, 3) := by decide +kernel
theorem dX3_joined_105 : decode cX3_joined 105 = .ok (.iconst 0, 1) := by decide +kernel
theorem dX3_joined_106 : decode cX3_joined 106 = .ok (.ireturn, 1) := by decide +kernel
theorem dX3_joined_107 : decode cX3_joined 107 = .ok (.iload_n 0, 1) := by decide +kernel
theorem dX3_joined_108 : decode cX3_joined 108 = .ok (.iload_n 2, 1) := by decide +kernel
theorem dX3_joined_109 : decode cX3_joined 109 = .ok (.if_icmp .le 7, 3) := by decide +kernel
theorem dX3_joined_112 : decode cX3_joined 112 = .ok (.iconst 1, 1) := by decide +kernel
theorem dX3_joined_113 : decode cX3_joined 113 = .ok (.goto 4, 3) := by decide +kernel
theorem dX3_joined_116 : decode cX3_joined 116 = .ok (.iconst 0, 1) := by decide +kernel
theorem dX3_joined_117 : decode cX3_joined 117 = .ok (.ireturn, 1) := by decide +kernel
theorem dX3_joined_118 : decode cX3_joined 118 = .ok (.iload_n 0, 1) := by decide +kernel
theorem dX3_joined_119 : decode cX3_joined 119 = .ok (.iload_n 2, 1) := by decide +kernel
theorem dX3_joined_120 : decode cX3_joined 120 = .ok (.if_icmp .ne 7, 3) := by decide +kernel
theorem dX3_joined_123 : decode cX3_joined 123 = .ok (.iconst 1, 1) := by decide +kernel
theorem dX3_joined_124 : decode cX3_joined 124 = .ok (.goto 4, 3) := by decide +kernel
theorem dX3_joined_127 : decode cX3_joined 127 = .ok (.iconst 0, 1) := by decide +kernel
theorem dX3_joined_128 : decode cX3_joined 128 = .ok (.ireturn, 1) := by decide +kernel
theorem dX3_joined_129 : decode cX3_joined 129 = .ok (.iload_n 0, 1) := by decide +kernel
theorem dX3_joined_130 : decode cX3_joined 130 = .ok (.iload_n 2, 1) := by decide +kernel
theorem dX3_joined_131 : decode cX3_joined 131 = .ok (.iadd, 1) := by decide +kernel
theorem dX3_joined_132 : decode cX3_joined 132 = .ok (.ireturn, 1) := by decide +kernel
theorem dX3_joined_133 : decode cX3_joined 133 = .ok (.iload_n 0, 1) := by decide +kernel
theorem dX3_joined_134 : decode cX3_joined 134 = .ok (.iload_n 2, 1) := by decide +kernel
theorem dX3_joined_135 : decode cX3_joined 135 = .ok (.isub, 1) := by decide +kernel
theorem dX3_joined_136 : decode cX3_joined 136 = .ok (.ireturn, 1) := by decide +kernel
theorem dX3_joined_137 : decode cX3_joined 137 = .ok (.iload_n 0, 1) := by decide +kernel
theorem dX3_joined_138 : decode cX3_joined 138 = .ok (.iload_n 2, 1) := by decide +kernel
theorem dX3_joined_139 : decode cX3_joined 139 = .ok (.imul, 1) := by decide +kernel
theorem dX3_joined_140 : decode cX3_joined 140 = .ok (.ireturn, 1) := by decide +kernel
theorem dX4_init_0 : decode cX4_init 0 = .ok (.aload_n 0, 1) := by decide +kernel
theorem dX4_init_1 : decode cX4_init 1 = .ok (.invokespecial 3, 3) := by decide +kernel
theorem dX4_init_4 : decode cX4_init 4 = .ok (.aload_n 0, 1) := by decide +kernel
theorem dX4_init_5 : decode cX4_init 5 = .ok (.iconst 4, 1) := by decide +kernel
theorem dX4_init_6 : decode cX4_init 6 = .ok (.newarray .int, 2) := by decide +kernel
theorem dX4_init_8 : decode cX4_init 8 = .ok (.dup, 1) := by decide +kernel
theorem dX4_init_9 : decode cX4_init 9 = .ok (.iconst 0, 1) := by decide +kernel
theorem dX4_init_10 : decode cX4_init 10 = .ok (.bipush 30, 2) := by decide +kernel
theorem dX4_init_12 : decode cX4_init 12 = .ok (.iastore, 1) := by decide +kernel
theorem dX4_init_13 : decode cX4_init 13 = .ok (.dup, 1) := by decide +kernel
theorem dX4_init_14 : decode cX4_init 14 = .ok (.iconst 1, 1) := by decide +kernel
theorem dX4_init_15 : decode cX4_init 15 = .ok (.bipush 30, 2) := by decide +kernel
theorem dX4_init_17 : decode cX4_init 17 = .ok (.iastore, 1) := by decide +kernel
theorem dX4_init_18 : decode cX4_init 18 = .ok (.dup, 1) := by decide +kernel
theorem dX4_init_19 : decode cX4_init 19 = .ok (.iconst 2, 1) := by decide +kernel
theorem dX4_init_20 : decode cX4_init 20 = .ok (.bipush 30, 2) := by decide +kernel
theorem dX4_init_22 : decode cX4_init 22 = .ok (.iastore, 1) := by decide +kernel
theorem dX4_init_23 : decode cX4_init 23 = .ok (.dup, 1) := by decide +kernel
theorem dX4_init_24 : decode cX4_init 24 = .ok (.iconst 3, 1) := by decide +kernel
theorem dX4_init_25 : decode cX4_init 25 = .ok (.iconst 0, 1) := by decide +kernel
theorem dX4_init_26 : decode cX4_init 26 = .ok (.iastore, 1) := by decide +kernel
theorem dX4_init_27 : decode cX4_init 27 = .ok (.putfield 9, 3) := by decide +kernel
theorem dX4_init_30 : decode cX4_init 30 = .ok (.aload_n 0, 1) := by decide +kernel
theorem dX4_init_31 : decode cX4_init 31 = .ok (.iconst 4, 1) := by decide +kernel
theorem dX4_init_32 : decode cX4_init 32 = .ok (.newarray .int, 2) := by decide +kernel
theorem dX4_init_34 : decode cX4_init 34 = .ok (.dup, 1) := by decide +kernel
theorem dX4_init_35 : decode cX4_init 35 = .ok (.iconst 0, 1) := by decide +kernel
theorem dX4_init_36 : decode cX4_init 36 = .ok (.bipush 30, 2) := by decide +kernel
theorem dX4_init_38 : decode cX4_init 38 = .ok (.iastore, 1) := by decide +kernel
theorem dX4_init_39 : decode cX4_init 39 = .ok (.dup, 1) := by decide +kernel
theorem dX4_init_40 : decode cX4_init 40 = .ok (.iconst 1, 1) := by decide +kernel
theorem dX4_init_41 : decode cX4_init 41 = .ok (.bipush 15, 2) := by decide +kernel
theorem dX4_init_43 : decode cX4_init 43 = .ok (.iastore, 1) := by decide +kernel
theorem dX4_init_44 : decode cX4_init 44 = .ok (.dup, 1) := by decide +kernel
theorem dX4_init_45 : decode cX4_init 45 = .ok (.iconst 2, 1) := by decide +kernel
theorem dX4_init_46 : decode cX4_init 46 = .ok (.iconst 0, 1) := by decide +kernel
theorem dX4_init_47 : decode cX4_init 47 = .ok (.iastore, 1) := by decide +kernel
theorem dX4_init_48 : decode cX4_init 48 = .ok (.dup, 1) := by decide +kernel
theorem dX4_init_49 : decode cX4_init 49 = .ok (.iconst 3, 1) := by decide +kernel
theorem dX4_init_50 : decode cX4_init 50 = .ok (.iconst 0, 1) := by decide +kernel
theorem dX4_init_51 : decode cX4_init 51 = .ok (.iastore, 1) := by decide +kernel
theorem dX4_init_52 : decode cX4_init 52 = .ok (.putfield 15, 3) := by decide +kernel
theorem dX4_init_55 : decode cX4_init 55 = .ok (.aload_n 0, 1) := by decide +kernel
theorem dX4_init_56 : decode cX4_init 56 = .ok (.iconst 4, 1) := by decide +kernel
theorem dX4_init_57 : decode cX4_init 57 = .ok (.newarray .int, 2) := by decide +kernel
theorem dX4_init_59 : decode cX4_init 59 = .ok (.dup, 1) := by decide +kernel
theorem dX4_init_60 : decode cX4_init 60 = .ok (.iconst 0, 1) := by decide +kernel
theorem dX4_init_61 : decode cX4_init 61 = .ok (.iconst 1, 1) := by decide +kernel
theorem dX4_init_62 : decode cX4_init 62 = .ok (.iastore, 1) := by decide +kernel
theorem dX4_init_63 : decode cX4_init 63 = .ok (.dup, 1) := by decide +kernel
theorem dX4_init_64 : decode cX4_init 64 = .ok (.iconst 1, 1) := by decide +kernel
theorem dX4_init_65 : decode cX4_init 65 = .ok (.iconst 1, 1) := by decide +kernel
theorem dX4_init_66 : decode cX4_init 66 = .ok (.iastore, 1) := by decide +kernel
theorem dX4_init_67 : decode cX4_init 67 = .ok (.dup, 1) := by decide +kernel
theorem dX4_init_68 : decode cX4_init 68 = .ok (.iconst 2, 1) := by decide +kernel
theorem dX4_init_69 : decode cX4_init 69 = .ok (.iconst 1, 1) := by decide +kernel
theorem dX4_init_70 : decode cX4_init 70 = .ok (.iastore, 1) := by decide +kernel
theorem dX4_init_71 : decode cX4_init 71 = .ok (.dup, 1) := by decide +kernel
theorem dX4_init_72 : decode cX4_init 72 = .ok (.iconst 3, 1) := by decide +kernel
theorem dX4_init_73 : decode cX4_init 73 = .ok (.iconst 1, 1) := by decide +kernel
theorem dX4_init_74 : decode cX4_init 74 = .ok (.iastore, 1) := by decide +kernel
theorem dX4_init_75 : decode cX4_init 75 = .ok (.putfield 18, 3) := by decide +kernel
theorem dX4_init_78 : decode cX4_init 78 = .ok (.aload_n 0, 1) := by decide +kernel
theorem dX4_init_79 : decode cX4_init 79 = .ok (.bipush 24, 2) := by decide +kernel
theorem dX4_init_81 : decode cX4_init 81 = .ok (.iconst 4, 1) := by decide +kernel
theorem dX4_init_82 : decode cX4_init 82 = .ok (.multianewarray 21 2, 4) := by decide +kernel
theorem dX4_init_86 : decode cX4_init 86 = .ok (.putfield 23, 3) := by decide +kernel
theorem dX4_init_89 : decode cX4_init 89 = .ok (.aload_n 0, 1) := by decide +kernel
theorem dX4_init_90 : decode cX4_init 90 = .ok (.bipush 24, 2) := by decide +kernel
theorem dX4_init_92 : decode cX4_init 92 = .ok (.newarray .int, 2) := by decide +kernel
theorem dX4_init_94 : decode cX4_init 94 = .ok (.putfield 26, 3) := by decide +kernel
theorem dX4_init_97 : decode cX4_init 97 = .ok (.aload_n 0, 1) := by decide +kernel
theorem dX4_init_98 : decode cX4_init 98 = .ok (.new 29, 3) := by decide +kernel
theorem dX4_init_101 : decode cX4_init 101 = .ok (.dup, 1) := by decide +kernel
theorem dX4_init_102 : decode cX4_init 102 = .ok (.bipush 30, 2) := by decide +kernel
theorem dX4_init_104 : decode cX4_init 104 = .ok (.invokespecial 31, 3) := by decide +kernel
theorem dX4_init_107 : decode cX4_init 107 = .ok (.putfield 34, 3) := by decide +kernel
theorem dX4_init_110 : decode cX4_init 110 = .ok (.aload_n 0, 1) := by decide +kernel
theorem dX4_init_111 : decode cX4_init 111 = .ok (.new 29, 3) := by decide +kernel
theorem dX4_init_114 : decode cX4_init 114 = .ok (.dup, 1) := by decide +kernel
theorem dX4_init_115 : decode cX4_init 115 = .ok (.bipush 30, 2) := by decide +kernel
theorem dX4_init_117 : decode cX4_init 117 = .ok (.invokespecial 31, 3) := by decide +kernel
theorem dX4_init_120 : decode cX4_init 120 = .ok (.putfield 38, 3) := by decide +kernel
theorem dX4_init_123 : decode cX4_init 123 = .ok (.aload_n 0, 1) := by decide +kernel
theorem dX4_init_124 : decode cX4_init 124 = .ok (.aload_n 1, 1) := by decide +kernel
theorem dX4_init_125 : decode cX4_init 125 = .ok (.putfield 41, 3) := by decide +kernel
theorem dX4_init_128 : decode cX4_init 128 = .ok (.aload_n 0, 1) := by decide +kernel
theorem dX4_init_129 : decode cX4_init 129 = .ok (.aload_n 2, 1) := by decide +kernel
theorem dX4_init_130 : decode cX4_init 130 = .ok (.putfield 45, 3) := by decide +kernel
theorem dX4_init_133 : decode cX4_init 133 = .ok (.return_, 1) := by decide +kernel
theorem dX4_rungIn_0 : decode cX4_rungIn 0 = .ok (.iconst 0, 1) := by decide +kernel
theorem dX4_rungIn_1 : decode cX4_rungIn 1 = .ok (.istore_n 3, 1) := by decide +kernel
theorem dX4_rungIn_2 : decode cX4_rungIn 2 = .ok (.iconst 0, 1) := by decide +kernel
theorem dX4_rungIn_3 : decode cX4_rungIn 3 = .ok (.istore 4, 2) := by decide +kernel
theorem dX4_rungIn_5 : decode cX4_rungIn 5 = .ok (.iload 4, 2) := by decide +kernel
theorem dX4_rungIn_7 : decode cX4_rungIn 7 = .ok (.aload_n 0, 1) := by decide +kernel
theorem dX4_rungIn_8 : decode cX4_rungIn 8 = .ok (.getfield 41, 3) := by decide +kernel
theorem dX4_rungIn_11 : decode cX4_rungIn 11 = .ok (.getfield 49, 3) := by decide +kernel
theorem dX4_rungIn_14 : decode cX4_rungIn 14 = .ok (.if_icmp .ge 59, 3) := by decide +kernel
theorem dX4_rungIn_17 : decode cX4_rungIn 17 = .ok (.aload_n 0, 1) := by decide +kernel
theorem dX4_rungIn_18 : decode cX4_rungIn 18 = .ok (.getfield 41, 3) := by decide +kernel
theorem dX4_rungIn_21 : decode cX4_rungIn 21 = .ok (.getfield 55, 3) := by decide +kernel
theorem dX4_rungIn_24 : decode cX4_rungIn 24 = .ok (.iload 4, 2) := by decide +kernel
theorem dX4_rungIn_26 : decode cX4_rungIn 26 = .ok (.aaload, 1) := by decide +kernel
theorem dX4_rungIn_27 : decode cX4_rungIn 27 = .ok (.astore 5, 2) := by decide +kernel
theorem dX4_rungIn_29 : decode cX4_rungIn 29 = .ok (.iload_n 3, 1) := by decide +kernel
theorem dX4_rungIn_30 : decode cX4_rungIn 30 = .ok (.aload 5, 2) := by decide +kernel
theorem dX4_rungIn_32 : decode cX4_rungIn 32 = .ok (.getfield 59, 3) := by decide +kernel
theorem dX4_rungIn_35 : decode cX4_rungIn 35 = .ok (.iload_n 1, 1) := by decide +kernel
theorem dX4_rungIn_36 : decode cX4_rungIn 36 = .ok (.if_icmp .ne 28, 3) := by decide +kernel
theorem dX4_rungIn_39 : decode cX4_rungIn 39 = .ok (.aload 5, 2) := by decide +kernel
theorem dX4_rungIn_41 : decode cX4_rungIn 41 = .ok (.getfield 64, 3) := by decide +kernel
theorem dX4_rungIn_44 : decode cX4_rungIn 44 = .ok (.ifCond .eq 20, 3) := by decide +kernel
theorem dX4_rungIn_47 : decode cX4_rungIn 47 = .ok (.aload_n 0, 1) := by decide +kernel
theorem dX4_rungIn_48 : decode cX4_rungIn 48 = .ok (.getfield 41, 3) := by decide +kernel
theorem dX4_rungIn_51 : decode cX4_rungIn 51 = .ok (.aload 5, 2) := by decide +kernel
theorem dX4_rungIn_53 : decode cX4_rungIn 53 = .ok (.invokevirtual 68, 3) := by decide +kernel
theorem dX4_rungIn_56 : decode cX4_rungIn 56 = .ok (.iload_n 2, 1) := by decide +kernel
theorem dX4_rungIn_57 : decode cX4_rungIn 57 = .ok (.if_icmp .ne 7, 3) := by decide +kernel
theorem dX4_rungIn_60 : decode cX4_rungIn 60 = .ok (.iconst 1, 1) := by decide +kernel
theorem dX4_rungIn_61 : decode cX4_rungIn 61 = .ok (.goto 4, 3) := by decide +kernel
theorem dX4_rungIn_64 : decode cX4_rungIn 64 = .ok (.iconst 0, 1) := by decide +kernel
theorem dX4_rungIn_65 : decode cX4_rungIn 65 = .ok (.iadd, 1) := by decide +kernel
theorem dX4_rungIn_66 : decode cX4_rungIn 66 = .ok (.istore_n 3, 1) := by decide +kernel
theorem dX4_rungIn_67 : decode cX4_rungIn 67 = .ok (.iinc 4 1, 3) := by decide +kernel
theorem dX4_rungIn_70 : decode cX4_rungIn 70 = .ok (.goto (-65), 3) := by decide +kernel
theorem dX4_rungIn_73 : decode cX4_rungIn 73 = .ok (.iload_n 3, 1) := by decide +kernel
theorem dX4_rungIn_74 : decode cX4_rungIn 74 = .ok (.ireturn, 1) := by decide +kernel
theorem dX4_housesWith_0 : decode cX4_housesWith 0 = .ok (.iload_n 1, 1) := by decide +kernel
theorem dX4_housesWith_1 : decode cX4_housesWith 1 = .ok (.iconst 0, 1) := by decide +kernel
theorem dX4_housesWith_2 : decode cX4_housesWith 2 = .ok (.iconst 4, 1) := by decide +kernel
theorem dX4_housesWith_3 : decode cX4_housesWith 3 = .ok (.invokestatic 72, 3) := by decide +kernel
theorem dX4_housesWith_6 : decode cX4_housesWith 6 = .ok (.ifCond .eq 12, 3) := by decide +kernel
theorem dX4_housesWith_9 : decode cX4_housesWith 9 = .ok (.iload_n 2, 1) := by decide +kernel
theorem dX4_housesWith_10 : decode cX4_housesWith 10 = .ok (.iconst 0, 1) := by decide +kernel
theorem dX4_housesWith_11 : decode cX4_housesWith 11 = .ok (.iconst 4, 1) := by decide +kernel
theorem dX4_housesWith_12 : decode cX4_housesWith 12 = .ok (.invokestatic 72, 3) := by decide +kernel
theorem dX4_housesWith_15 : decode cX4_housesWith 15 = .ok (.ifCond .ne 5, 3) := by decide +kernel
theorem dX4_housesWith_18 : decode cX4_housesWith 18 = .ok (.iconst (-1), 1) := by decide +kernel
theorem dX4_housesWith_19 : decode cX4_housesWith 19 = .ok (.ireturn, 1) := by decide +kernel
theorem dX4_housesWith_20 : decode cX4_housesWith 20 = .ok (.iconst 0, 1) := by decide +kernel
theorem dX4_housesWith_21 : decode cX4_housesWith 21 = .ok (.istore_n 3, 1) := by decide +kernel
theorem dX4_housesWith_22 : decode cX4_housesWith 22 = .ok (.iconst 0, 1) := by decide +kernel
theorem dX4_housesWith_23 : decode cX4_housesWith 23 = .ok (.istore 4, 2) := by decide +kernel
theorem dX4_housesWith_25 : decode cX4_housesWith 25 = .ok (.iload 4, 2) := by decide +kernel
theorem dX4_housesWith_27 : decode cX4_housesWith 27 = .ok (.aload_n 0, 1) := by decide +kernel
theorem dX4_housesWith_28 : decode cX4_housesWith 28 = .ok (.getfield 41, 3) := by decide +kernel
theorem dX4_housesWith_31 : decode cX4_housesWith 31 = .ok (.getfield 76, 3) := by decide +kernel
theorem dX4_housesWith_34 : decode cX4_housesWith 34 = .ok (.if_icmp .ge 51, 3) := by decide +kernel
theorem dX4_housesWith_37 : decode cX4_housesWith 37 = .ok (.iload_n 3, 1) := by decide +kernel
theorem dX4_housesWith_38 : decode cX4_housesWith 38 = .ok (.aload_n 0, 1) := by decide +kernel
theorem dX4_housesWith_39 : decode cX4_housesWith 39 = .ok (.getfield 41, 3) := by decide +kernel
theorem dX4_housesWith_42 : decode cX4_housesWith 42 = .ok (.iload 4, 2) := by decide +kernel
theorem dX4_housesWith_44 : decode cX4_housesWith 44 = .ok (.invokevirtual 79, 3) := by decide +kernel
theorem dX4_housesWith_47 : decode cX4_housesWith 47 = .ok (.ifCond .eq 29, 3) := by decide +kernel
theorem dX4_housesWith_50 : decode cX4_housesWith 50 = .ok (.aload_n 0, 1) := by decide +kernel
theorem dX4_housesWith_51 : decode cX4_housesWith 51 = .ok (.iload 4, 2) := by decide +kernel
theorem dX4_housesWith_53 : decode cX4_housesWith 53 = .ok (.iconst 0, 1) := by decide +kernel
theorem dX4_housesWith_54 : decode cX4_housesWith 54 = .ok (.invokevirtual 83, 3) := by decide +kernel
theorem dX4_housesWith_57 : decode cX4_housesWith 57 = .ok (.iload_n 1, 1) := by decide +kernel
theorem dX4_housesWith_58 : decode cX4_housesWith 58 = .ok (.if_icmp .ne 18, 3) := by decide +kernel
theorem dX4_housesWith_61 : decode cX4_housesWith 61 = .ok (.aload_n 0, 1) := by decide +kernel
theorem dX4_housesWith_62 : decode cX4_housesWith 62 = .ok (.iload 4, 2) := by decide +kernel
theorem dX4_housesWith_64 : decode cX4_housesWith 64 = .ok (.iconst 1, 1) := by decide +kernel
theorem dX4_housesWith_65 : decode cX4_housesWith 65 = .ok (.invokevirtual 83, 3) := by decide +kernel
theorem dX4_housesWith_68 : decode cX4_housesWith 68 = .ok (.iload_n 2, 1) := by decide +kernel
theorem dX4_housesWith_69 : decode cX4_housesWith 69 = .ok (.if_icmp .ne 7, 3) := by decide +kernel
theorem dX4_housesWith_72 : decode cX4_housesWith 72 = .ok (.iconst 1, 1) := by decide +kernel
theorem dX4_housesWith_73 : decode cX4_housesWith 73 = .ok (.goto 4, 3) := by decide +kernel
theorem dX4_housesWith_76 : decode cX4_housesWith 76 = .ok (.iconst 0, 1) := by decide +kernel
theorem dX4_housesWith_77 : decode cX4_housesWith 77 = .ok (.iadd, 1) := by decide +kernel
theorem dX4_housesWith_78 : decode cX4_housesWith 78 = .ok (.istore_n 3, 1) := by decide +kernel
theorem dX4_housesWith_79 : decode cX4_housesWith 79 = .ok (.iinc 4 1, 3) := by decide +kernel
theorem dX4_housesWith_82 : decode cX4_housesWith 82 = .ok (.goto (-57), 3) := by decide +kernel
theorem dX4_housesWith_85 : decode cX4_housesWith 85 = .ok (.iload_n 3, 1) := by decide +kernel
theorem dX4_housesWith_86 : decode cX4_housesWith 86 = .ok (.ireturn, 1) := by decide +kernel
theorem dX4_become_0 : decode cX4_become 0 = .ok (.iload_n 1, 1) := by decide +kernel
theorem dX4_become_1 : decode cX4_become 1 = .ok (.iconst 0, 1) := by decide +kernel
theorem dX4_become_2 : decode cX4_become 2 = .ok (.iconst 3, 1) := by decide +kernel
theorem dX4_become_3 : decode cX4_become 3 = .ok (.invokestatic 72, 3) := by decide +kernel
theorem dX4_become_6 : decode cX4_become 6 = .ok (.ifCond .eq 23, 3) := by decide +kernel
theorem dX4_become_9 : decode cX4_become 9 = .ok (.iload_n 2, 1) := by decide +kernel
theorem dX4_become_10 : decode cX4_become 10 = .ok (.iconst 0, 1) := by decide +kernel
theorem dX4_become_11 : decode cX4_become 11 = .ok (.bipush 100, 2) := by decide +kernel
theorem dX4_become_13 : decode cX4_become 13 = .ok (.invokestatic 72, 3) := by decide +kernel
theorem dX4_become_16 : decode cX4_become 16 = .ok (.ifCond .eq 13, 3) := by decide +kernel
theorem dX4_become_19 : decode cX4_become 19 = .ok (.iload_n 3, 1) := by decide +kernel
theorem dX4_become_20 : decode cX4_become 20 = .ok (.iconst 0, 1) := by decide +kernel
theorem dX4_become_21 : decode cX4_become 21 = .ok (.bipush 100, 2) := by decide +kernel
theorem dX4_become_23 : decode cX4_become 23 = .ok (.invokestatic 72, 3) := by decide +kernel
theorem dX4_become_26 : decode cX4_become 26 = .ok (.ifCond .ne 5, 3) := by decide +kernel
theorem dX4_become_29 : decode cX4_become 29 = .ok (.iconst 0, 1) := by decide +kernel
theorem dX4_become_30 : decode cX4_become 30 = .ok (.ireturn, 1) := by decide +kernel
theorem dX4_become_31 : decode cX4_become 31 = .ok (.aload_n 0, 1) := by decide +kernel
theorem dX4_become_32 : decode cX4_become 32 = .ok (.getfield 9, 3) := by decide +kernel
theorem dX4_become_35 : decode cX4_become 35 = .ok (.iload_n 1, 1) := by decide +kernel
theorem dX4_become_36 : decode cX4_become 36 = .ok (.iload_n 2, 1) := by decide +kernel
theorem dX4_become_37 : decode cX4_become 37 = .ok (.iastore, 1) := by decide +kernel
theorem dX4_become_38 : decode cX4_become 38 = .ok (.aload_n 0, 1) := by decide +kernel
theorem dX4_become_39 : decode cX4_become 39 = .ok (.getfield 15, 3) := by decide +kernel
theorem dX4_become_42 : decode cX4_become 42 = .ok (.iload_n 1, 1) := by decide +kernel
theorem dX4_become_43 : decode cX4_become 43 = .ok (.iload_n 3, 1) := by decide +kernel
theorem dX4_become_44 : decode cX4_become 44 = .ok (.iastore, 1) := by decide +kernel
theorem dX4_become_45 : decode cX4_become 45 = .ok (.iconst 1, 1) := by decide +kernel
theorem dX4_become_46 : decode cX4_become 46 = .ok (.ireturn, 1) := by decide +kernel
theorem dX4_becomePart_0 : decode cX4_becomePart 0 = .ok (.iload_n 1, 1) := by decide +kernel
theorem dX4_becomePart_1 : decode cX4_becomePart 1 = .ok (.iconst 0, 1) := by decide +kernel
theorem dX4_becomePart_2 : decode cX4_becomePart 2 = .ok (.iconst 3, 1) := by decide +kernel
theorem dX4_becomePart_3 : decode cX4_becomePart 3 = .ok (.invokestatic 72, 3) := by decide +kernel
theorem dX4_becomePart_6 : decode cX4_becomePart 6 = .ok (.ifCond .eq 13, 3) := by decide +kernel
theorem dX4_becomePart_9 : decode cX4_becomePart 9 = .ok (.iload_n 2, 1) := by decide +kernel
theorem dX4_becomePart_10 : decode cX4_becomePart 10 = .ok (.iconst 0, 1) := by decide +kernel
theorem dX4_becomePart_11 : decode cX4_becomePart 11 = .ok (.bipush 99, 2) := by decide +kernel
theorem dX4_becomePart_13 : decode cX4_becomePart 13 = .ok (.invokestatic 72, 3) := by decide +kernel
theorem dX4_becomePart_16 : decode cX4_becomePart 16 = .ok (.ifCond .ne 5, 3) := by decide +kernel
theorem dX4_becomePart_19 : decode cX4_becomePart 19 = .ok (.iconst (-1), 1) := by decide +kernel
theorem dX4_becomePart_20 : decode cX4_becomePart 20 = .ok (.ireturn, 1) := by decide +kernel
theorem dX4_becomePart_21 : decode cX4_becomePart 21 = .ok (.iload_n 2, 1) := by decide +kernel
theorem dX4_becomePart_22 : decode cX4_becomePart 22 = .ok (.aload_n 0, 1) := by decide +kernel
theorem dX4_becomePart_23 : decode cX4_becomePart 23 = .ok (.getfield 18, 3) := by decide +kernel
theorem dX4_becomePart_26 : decode cX4_becomePart 26 = .ok (.iload_n 1, 1) := by decide +kernel
theorem dX4_becomePart_27 : decode cX4_becomePart 27 = .ok (.iaload, 1) := by decide +kernel
theorem dX4_becomePart_28 : decode cX4_becomePart 28 = .ok (.isub, 1) := by decide +kernel
theorem dX4_becomePart_29 : decode cX4_becomePart 29 = .ok (.istore_n 3, 1) := by decide +kernel
theorem dX4_becomePart_30 : decode cX4_becomePart 30 = .ok (.iconst 0, 1) := by decide +kernel
theorem dX4_becomePart_31 : decode cX4_becomePart 31 = .ok (.istore 4, 2) := by decide +kernel
theorem dX4_becomePart_33 : decode cX4_becomePart 33 = .ok (.iload 4, 2) := by decide +kernel
theorem dX4_becomePart_35 : decode cX4_becomePart 35 = .ok (.iconst 4, 1) := by decide +kernel
theorem dX4_becomePart_36 : decode cX4_becomePart 36 = .ok (.if_icmp .ge 19, 3) := by decide +kernel
theorem dX4_becomePart_39 : decode cX4_becomePart 39 = .ok (.iload_n 3, 1) := by decide +kernel
theorem dX4_becomePart_40 : decode cX4_becomePart 40 = .ok (.aload_n 0, 1) := by decide +kernel
theorem dX4_becomePart_41 : decode cX4_becomePart 41 = .ok (.getfield 18, 3) := by decide +kernel
theorem dX4_becomePart_44 : decode cX4_becomePart 44 = .ok (.iload 4, 2) := by decide +kernel
theorem dX4_becomePart_46 : decode cX4_becomePart 46 = .ok (.iaload, 1) := by decide +kernel
theorem dX4_becomePart_47 : decode cX4_becomePart 47 = .ok (.iadd, 1) := by decide +kernel
theorem dX4_becomePart_48 : decode cX4_becomePart 48 = .ok (.istore_n 3, 1) := by decide +kernel
theorem dX4_becomePart_49 : decode cX4_becomePart 49 = .ok (.iinc 4 1, 3) := by decide +kernel
theorem dX4_becomePart_52 : decode cX4_becomePart 52 = .ok (.goto (-19), 3) := by decide +kernel
theorem dX4_becomePart_55 : decode cX4_becomePart 55 = .ok (.iload_n 3, 1) := by decide +kernel
theorem dX4_becomePart_56 : decode cX4_becomePart 56 = .ok (.ifCond .ne 5, 3) := by decide +kernel
theorem dX4_becomePart_59 : decode cX4_becomePart 59 = .ok (.iconst (-1), 1) := by decide +kernel
theorem dX4_becomePart_60 : decode cX4_becomePart 60 = .ok (.ireturn, 1) := by decide +kernel
theorem dX4_becomePart_61 : decode cX4_becomePart 61 = .ok (.aload_n 0, 1) := by decide +kernel
theorem dX4_becomePart_62 : decode cX4_becomePart 62 = .ok (.getfield 18, 3) := by decide +kernel
theorem dX4_becomePart_65 : decode cX4_becomePart 65 = .ok (.iload_n 1, 1) := by decide +kernel
theorem dX4_becomePart_66 : decode cX4_becomePart 66 = .ok (.iaload, 1) := by decide +kernel
theorem dX4_becomePart_67 : decode cX4_becomePart 67 = .ok (.istore 4, 2) := by decide +kernel
theorem dX4_becomePart_69 : decode cX4_becomePart 69 = .ok (.aload_n 0, 1) := by decide +kernel
theorem dX4_becomePart_70 : decode cX4_becomePart 70 = .ok (.getfield 18, 3) := by decide +kernel
theorem dX4_becomePart_73 : decode cX4_becomePart 73 = .ok (.iload_n 1, 1) := by decide +kernel
theorem dX4_becomePart_74 : decode cX4_becomePart 74 = .ok (.iload_n 2, 1) := by decide +kernel
theorem dX4_becomePart_75 : decode cX4_becomePart 75 = .ok (.iastore, 1) := by decide +kernel
theorem dX4_becomePart_76 : decode cX4_becomePart 76 = .ok (.iload 4, 2) := by decide +kernel
theorem dX4_becomePart_78 : decode cX4_becomePart 78 = .ok (.ireturn, 1) := by decide +kernel
theorem dX4_likelihood_0 : decode cX4_likelihood 0 = .ok (.lconst 1, 1) := by decide +kernel
theorem dX4_likelihood_1 : decode cX4_likelihood 1 = .ok (.lstore_n 3, 1) := by decide +kernel
theorem dX4_likelihood_2 : decode cX4_likelihood 2 = .ok (.iconst 0, 1) := by decide +kernel
theorem dX4_likelihood_3 : decode cX4_likelihood 3 = .ok (.istore 5, 2) := by decide +kernel
theorem dX4_likelihood_5 : decode cX4_likelihood 5 = .ok (.iload 5, 2) := by decide +kernel
theorem dX4_likelihood_7 : decode cX4_likelihood 7 = .ok (.aload_n 0, 1) := by decide +kernel
theorem dX4_likelihood_8 : decode cX4_likelihood 8 = .ok (.getfield 41, 3) := by decide +kernel
theorem dX4_likelihood_11 : decode cX4_likelihood 11 = .ok (.getfield 49, 3) := by decide +kernel
theorem dX4_likelihood_14 : decode cX4_likelihood 14 = .ok (.if_icmp .ge 90, 3) := by decide +kernel
theorem dX4_likelihood_17 : decode cX4_likelihood 17 = .ok (.aload_n 0, 1) := by decide +kernel
theorem dX4_likelihood_18 : decode cX4_likelihood 18 = .ok (.getfield 41, 3) := by decide +kernel
theorem dX4_likelihood_21 : decode cX4_likelihood 21 = .ok (.getfield 55, 3) := by decide +kernel
theorem dX4_likelihood_24 : decode cX4_likelihood 24 = .ok (.iload 5, 2) := by decide +kernel
theorem dX4_likelihood_26 : decode cX4_likelihood 26 = .ok (.aaload, 1) := by decide +kernel
theorem dX4_likelihood_27 : decode cX4_likelihood 27 = .ok (.astore 6, 2) := by decide +kernel
theorem dX4_likelihood_29 : decode cX4_likelihood 29 = .ok (.aload 6, 2) := by decide +kernel
theorem dX4_likelihood_31 : decode cX4_likelihood 31 = .ok (.getfield 59, 3) := by decide +kernel
theorem dX4_likelihood_34 : decode cX4_likelihood 34 = .ok (.iload_n 1, 1) := by decide +kernel
theorem dX4_likelihood_35 : decode cX4_likelihood 35 = .ok (.if_icmp .ne 63, 3) := by decide +kernel
theorem dX4_likelihood_38 : decode cX4_likelihood 38 = .ok (.aload 6, 2) := by decide +kernel
theorem dX4_likelihood_40 : decode cX4_likelihood 40 = .ok (.getfield 87, 3) := by decide +kernel
theorem dX4_likelihood_43 : decode cX4_likelihood 43 = .ok (.ifCond .eq 55, 3) := by decide +kernel
theorem dX4_likelihood_46 : decode cX4_likelihood 46 = .ok (.aload_n 0, 1) := by decide +kernel
theorem dX4_likelihood_47 : decode cX4_likelihood 47 = .ok (.getfield 41, 3) := by decide +kernel
theorem dX4_likelihood_50 : decode cX4_likelihood 50 = .ok (.aload 6, 2) := by decide +kernel
theorem dX4_likelihood_52 : decode cX4_likelihood 52 = .ok (.invokevirtual 68, 3) := by decide +kernel
theorem dX4_likelihood_55 : decode cX4_likelihood 55 = .ok (.ifCond .ne 12, 3) := by decide +kernel
theorem dX4_likelihood_58 : decode cX4_likelihood 58 = .ok (.aload_n 0, 1) := by decide +kernel
theorem dX4_likelihood_59 : decode cX4_likelihood 59 = .ok (.getfield 9, 3) := by decide +kernel
theorem dX4_likelihood_62 : decode cX4_likelihood 62 = .ok (.iload_n 2, 1) := by decide +kernel
theorem dX4_likelihood_63 : decode cX4_likelihood 63 = .ok (.iaload, 1) := by decide +kernel
theorem dX4_likelihood_64 : decode cX4_likelihood 64 = .ok (.goto 9, 3) := by decide +kernel
theorem dX4_likelihood_67 : decode cX4_likelihood 67 = .ok (.aload_n 0, 1) := by decide +kernel
theorem dX4_likelihood_68 : decode cX4_likelihood 68 = .ok (.getfield 15, 3) := by decide +kernel
theorem dX4_likelihood_71 : decode cX4_likelihood 71 = .ok (.iload_n 2, 1) := by decide +kernel
theorem dX4_likelihood_72 : decode cX4_likelihood 72 = .ok (.iaload, 1) := by decide +kernel
theorem dX4_likelihood_73 : decode cX4_likelihood 73 = .ok (.istore 7, 2) := by decide +kernel
theorem dX4_likelihood_75 : decode cX4_likelihood 75 = .ok (.lload_n 3, 1) := by decide +kernel
theorem dX4_likelihood_76 : decode cX4_likelihood 76 = .ok (.aload 6, 2) := by decide +kernel
theorem dX4_likelihood_78 : decode cX4_likelihood 78 = .ok (.getfield 64, 3) := by decide +kernel
theorem dX4_likelihood_81 : decode cX4_likelihood 81 = .ok (.ifCond .eq 9, 3) := by decide +kernel
theorem dX4_likelihood_84 : decode cX4_likelihood 84 = .ok (.iload 7, 2) := by decide +kernel
theorem dX4_likelihood_86 : decode cX4_likelihood 86 = .ok (.i2l, 1) := by decide +kernel
theorem dX4_likelihood_87 : decode cX4_likelihood 87 = .ok (.goto 9, 3) := by decide +kernel
theorem dX4_likelihood_90 : decode cX4_likelihood 90 = .ok (.bipush 100, 2) := by decide +kernel
theorem dX4_likelihood_92 : decode cX4_likelihood 92 = .ok (.iload 7, 2) := by decide +kernel
theorem dX4_likelihood_94 : decode cX4_likelihood 94 = .ok (.isub, 1) := by decide +kernel
theorem dX4_likelihood_95 : decode cX4_likelihood 95 = .ok (.i2l, 1) := by decide +kernel
theorem dX4_likelihood_96 : decode cX4_likelihood 96 = .ok (.lmul, 1) := by decide +kernel
theorem dX4_likelihood_97 : decode cX4_likelihood 97 = .ok (.lstore_n 3, 1) := by decide +kernel
theorem dX4_likelihood_98 : decode cX4_likelihood 98 = .ok (.iinc 5 1, 3) := by decide +kernel
theorem dX4_likelihood_101 : decode cX4_likelihood 101 = .ok (.goto (-96), 3) := by decide +kernel
theorem dX4_likelihood_104 : decode cX4_likelihood 104 = .ok (.lload_n 3, 1) := by decide +kernel
theorem dX4_likelihood_105 : decode cX4_likelihood 105 = .ok (.lreturn, 1) := by decide +kernel
theorem dX4_howLikely_0 : decode cX4_howLikely 0 = .ok (.aload_n 0, 1) := by decide +kernel
theorem dX4_howLikely_1 : decode cX4_howLikely 1 = .ok (.getfield 41, 3) := by decide +kernel
theorem dX4_howLikely_4 : decode cX4_howLikely 4 = .ok (.iload_n 1, 1) := by decide +kernel
theorem dX4_howLikely_5 : decode cX4_howLikely 5 = .ok (.invokevirtual 90, 3) := by decide +kernel
theorem dX4_howLikely_8 : decode cX4_howLikely 8 = .ok (.ifCond .eq 16, 3) := by decide +kernel
theorem dX4_howLikely_11 : decode cX4_howLikely 11 = .ok (.iload_n 2, 1) := by decide +kernel
theorem dX4_howLikely_12 : decode cX4_howLikely 12 = .ok (.iconst 0, 1) := by decide +kernel
theorem dX4_howLikely_13 : decode cX4_howLikely 13 = .ok (.iconst 3, 1) := by decide +kernel
theorem dX4_howLikely_14 : decode cX4_howLikely 14 = .ok (.invokestatic 72, 3) := by decide +kernel
theorem dX4_howLikely_17 : decode cX4_howLikely 17 = .ok (.ifCond .eq 7, 3) := by decide +kernel
theorem dX4_howLikely_20 : decode cX4_howLikely 20 = .ok (.iconst 1, 1) := by decide +kernel
theorem dX4_howLikely_21 : decode cX4_howLikely 21 = .ok (.goto 4, 3) := by decide +kernel
theorem dX4_howLikely_24 : decode cX4_howLikely 24 = .ok (.iconst 0, 1) := by decide +kernel
theorem dX4_howLikely_25 : decode cX4_howLikely 25 = .ok (.istore_n 3, 1) := by decide +kernel
theorem dX4_howLikely_26 : decode cX4_howLikely 26 = .ok (.iload_n 3, 1) := by decide +kernel
theorem dX4_howLikely_27 : decode cX4_howLikely 27 = .ok (.ifCond .eq 14, 3) := by decide +kernel
theorem dX4_howLikely_30 : decode cX4_howLikely 30 = .ok (.aload_n 0, 1) := by decide +kernel
theorem dX4_howLikely_31 : decode cX4_howLikely 31 = .ok (.iload_n 1, 1) := by decide +kernel
theorem dX4_howLikely_32 : decode cX4_howLikely 32 = .ok (.iconst 1, 1) := by decide +kernel
theorem dX4_howLikely_33 : decode cX4_howLikely 33 = .ok (.iload_n 2, 1) := by decide +kernel
theorem dX4_howLikely_34 : decode cX4_howLikely 34 = .ok (.ishl, 1) := by decide +kernel
theorem dX4_howLikely_35 : decode cX4_howLikely 35 = .ok (.invokevirtual 93, 3) := by decide +kernel
theorem dX4_howLikely_38 : decode cX4_howLikely 38 = .ok (.goto 4, 3) := by decide +kernel
theorem dX4_howLikely_41 : decode cX4_howLikely 41 = .ok (.iconst (-1), 1) := by decide +kernel
theorem dX4_howLikely_42 : decode cX4_howLikely 42 = .ok (.ireturn, 1) := by decide +kernel
theorem dX4_sumOfLikely_0 : decode cX4_sumOfLikely 0 = .ok (.lconst 0, 1) := by decide +kernel
theorem dX4_sumOfLikely_1 : decode cX4_sumOfLikely 1 = .ok (.lstore_n 3, 1) := by decide +kernel
theorem dX4_sumOfLikely_2 : decode cX4_sumOfLikely 2 = .ok (.iconst 0, 1) := by decide +kernel
theorem dX4_sumOfLikely_3 : decode cX4_sumOfLikely 3 = .ok (.istore 5, 2) := by decide +kernel
theorem dX4_sumOfLikely_5 : decode cX4_sumOfLikely 5 = .ok (.iload 5, 2) := by decide +kernel
theorem dX4_sumOfLikely_7 : decode cX4_sumOfLikely 7 = .ok (.iconst 4, 1) := by decide +kernel
theorem dX4_sumOfLikely_8 : decode cX4_sumOfLikely 8 = .ok (.if_icmp .ge 46, 3) := by decide +kernel
theorem dX4_sumOfLikely_11 : decode cX4_sumOfLikely 11 = .ok (.aload_n 0, 1) := by decide +kernel
theorem dX4_sumOfLikely_12 : decode cX4_sumOfLikely 12 = .ok (.getfield 23, 3) := by decide +kernel
theorem dX4_sumOfLikely_15 : decode cX4_sumOfLikely 15 = .ok (.iload_n 1, 1) := by decide +kernel
theorem dX4_sumOfLikely_16 : decode cX4_sumOfLikely 16 = .ok (.aaload, 1) := by decide +kernel
theorem dX4_sumOfLikely_17 : decode cX4_sumOfLikely 17 = .ok (.iload 5, 2) := by decide +kernel
theorem dX4_sumOfLikely_19 : decode cX4_sumOfLikely 19 = .ok (.aload_n 0, 1) := by decide +kernel
theorem dX4_sumOfLikely_20 : decode cX4_sumOfLikely 20 = .ok (.getfield 18, 3) := by decide +kernel
theorem dX4_sumOfLikely_23 : decode cX4_sumOfLikely 23 = .ok (.iload 5, 2) := by decide +kernel
theorem dX4_sumOfLikely_25 : decode cX4_sumOfLikely 25 = .ok (.iaload, 1) := by decide +kernel
theorem dX4_sumOfLikely_26 : decode cX4_sumOfLikely 26 = .ok (.i2l, 1) := by decide +kernel
theorem dX4_sumOfLikely_27 : decode cX4_sumOfLikely 27 = .ok (.aload_n 0, 1) := by decide +kernel
theorem dX4_sumOfLikely_28 : decode cX4_sumOfLikely 28 = .ok (.iload_n 1, 1) := by decide +kernel
theorem dX4_sumOfLikely_29 : decode cX4_sumOfLikely 29 = .ok (.iload 5, 2) := by decide +kernel
theorem dX4_sumOfLikely_31 : decode cX4_sumOfLikely 31 = .ok (.invokevirtual 96, 3) := by decide +kernel
theorem dX4_sumOfLikely_34 : decode cX4_sumOfLikely 34 = .ok (.lmul, 1) := by decide +kernel
theorem dX4_sumOfLikely_35 : decode cX4_sumOfLikely 35 = .ok (.lastore, 1) := by decide +kernel
theorem dX4_sumOfLikely_36 : decode cX4_sumOfLikely 36 = .ok (.lload_n 3, 1) := by decide +kernel
theorem dX4_sumOfLikely_37 : decode cX4_sumOfLikely 37 = .ok (.aload_n 0, 1) := by decide +kernel
theorem dX4_sumOfLikely_38 : decode cX4_sumOfLikely 38 = .ok (.getfield 23, 3) := by decide +kernel
theorem dX4_sumOfLikely_41 : decode cX4_sumOfLikely 41 = .ok (.iload_n 1, 1) := by decide +kernel
theorem dX4_sumOfLikely_42 : decode cX4_sumOfLikely 42 = .ok (.aaload, 1) := by decide +kernel
theorem dX4_sumOfLikely_43 : decode cX4_sumOfLikely 43 = .ok (.iload 5, 2) := by decide +kernel
theorem dX4_sumOfLikely_45 : decode cX4_sumOfLikely 45 = .ok (.laload, 1) := by decide +kernel
theorem dX4_sumOfLikely_46 : decode cX4_sumOfLikely 46 = .ok (.ladd, 1) := by decide +kernel
theorem dX4_sumOfLikely_47 : decode cX4_sumOfLikely 47 = .ok (.lstore_n 3, 1) := by decide +kernel
theorem dX4_sumOfLikely_48 : decode cX4_sumOfLikely 48 = .ok (.iinc 5 1, 3) := by decide +kernel
theorem dX4_sumOfLikely_51 : decode cX4_sumOfLikely 51 = .ok (.goto (-46), 3) := by decide +kernel
theorem dX4_sumOfLikely_54 : decode cX4_sumOfLikely 54 = .ok (.lload_n 3, 1) := by decide +kernel
theorem dX4_sumOfLikely_55 : decode cX4_sumOfLikely 55 = .ok (.lconst 0, 1) := by decide +kernel
theorem dX4_sumOfLikely_56 : decode cX4_sumOfLikely 56 = .ok (.lcmp, 1) := by decide +kernel
theorem dX4_sumOfLikely_57 : decode cX4_sumOfLikely 57 = .ok (.ifCond .ne 6, 3) := by decide +kernel
theorem dX4_sumOfLikely_60 : decode cX4_sumOfLikely 60 = .ok (.bipush (-2), 2) := by decide +kernel
theorem dX4_sumOfLikely_62 : decode cX4_sumOfLikely 62 = .ok (.ireturn, 1) := by decide +kernel
theorem dX4_sumOfLikely_63 : decode cX4_sumOfLikely 63 = .ok (.lconst 0, 1) := by decide +kernel
theorem dX4_sumOfLikely_64 : decode cX4_sumOfLikely 64 = .ok (.lstore 5, 2) := by decide +kernel
theorem dX4_sumOfLikely_66 : decode cX4_sumOfLikely 66 = .ok (.iconst 0, 1) := by decide +kernel
theorem dX4_sumOfLikely_67 : decode cX4_sumOfLikely 67 = .ok (.istore 7, 2) := by decide +kernel
theorem dX4_sumOfLikely_69 : decode cX4_sumOfLikely 69 = .ok (.iload 7, 2) := by decide +kernel
theorem dX4_sumOfLikely_71 : decode cX4_sumOfLikely 71 = .ok (.iconst 4, 1) := by decide +kernel
theorem dX4_sumOfLikely_72 : decode cX4_sumOfLikely 72 = .ok (.if_icmp .ge 43, 3) := by decide +kernel
theorem dX4_sumOfLikely_75 : decode cX4_sumOfLikely 75 = .ok (.lload 5, 2) := by decide +kernel
theorem dX4_sumOfLikely_77 : decode cX4_sumOfLikely 77 = .ok (.iload_n 2, 1) := by decide +kernel
theorem dX4_sumOfLikely_78 : decode cX4_sumOfLikely 78 = .ok (.iload 7, 2) := by decide +kernel
theorem dX4_sumOfLikely_80 : decode cX4_sumOfLikely 80 = .ok (.ishr, 1) := by decide +kernel
theorem dX4_sumOfLikely_81 : decode cX4_sumOfLikely 81 = .ok (.iconst 1, 1) := by decide +kernel
theorem dX4_sumOfLikely_82 : decode cX4_sumOfLikely 82 = .ok (.iand, 1) := by decide +kernel
theorem dX4_sumOfLikely_83 : decode cX4_sumOfLikely 83 = .ok (.iconst 1, 1) := by decide +kernel
theorem dX4_sumOfLikely_84 : decode cX4_sumOfLikely 84 = .ok (.if_icmp .ne 21, 3) := by decide +kernel
theorem dX4_sumOfLikely_87 : decode cX4_sumOfLikely 87 = .ok (.aload_n 0, 1) := by decide +kernel
theorem dX4_sumOfLikely_88 : decode cX4_sumOfLikely 88 = .ok (.getfield 23, 3) := by decide +kernel
theorem dX4_sumOfLikely_91 : decode cX4_sumOfLikely 91 = .ok (.iload_n 1, 1) := by decide +kernel
theorem dX4_sumOfLikely_92 : decode cX4_sumOfLikely 92 = .ok (.aaload, 1) := by decide +kernel
theorem dX4_sumOfLikely_93 : decode cX4_sumOfLikely 93 = .ok (.iload 7, 2) := by decide +kernel
theorem dX4_sumOfLikely_95 : decode cX4_sumOfLikely 95 = .ok (.laload, 1) := by decide +kernel
theorem dX4_sumOfLikely_96 : decode cX4_sumOfLikely 96 = .ok (.ldc2_w 100, 3) := by decide +kernel
theorem dX4_sumOfLikely_99 : decode cX4_sumOfLikely 99 = .ok (.lmul, 1) := by decide +kernel
theorem dX4_sumOfLikely_100 : decode cX4_sumOfLikely 100 = .ok (.lload_n 3, 1) := by decide +kernel
theorem dX4_sumOfLikely_101 : decode cX4_sumOfLikely 101 = .ok (.ldiv, 1) := by decide +kernel
theorem dX4_sumOfLikely_102 : decode cX4_sumOfLikely 102 = .ok (.goto 4, 3) := by decide +kernel
theorem dX4_sumOfLikely_105 : decode cX4_sumOfLikely 105 = .ok (.lconst 0, 1) := by decide +kernel
theorem dX4_sumOfLikely_106 : decode cX4_sumOfLikely 106 = .ok (.ladd, 1) := by decide +kernel
theorem dX4_sumOfLikely_107 : decode cX4_sumOfLikely 107 = .ok (.lstore 5, 2) := by decide +kernel
theorem dX4_sumOfLikely_109 : decode cX4_sumOfLikely 109 = .ok (.iinc 7 1, 3) := by decide +kernel
theorem dX4_sumOfLikely_112 : decode cX4_sumOfLikely 112 = .ok (.goto (-43), 3) := by decide +kernel
theorem dX4_sumOfLikely_115 : decode cX4_sumOfLikely 115 = .ok (.lload 5, 2) := by decide +kernel
theorem dX4_sumOfLikely_117 : decode cX4_sumOfLikely 117 = .ok (.l2i, 1) := by decide +kernel
theorem dX4_sumOfLikely_118 : decode cX4_sumOfLikely 118 = .ok (.ireturn, 1) := by decide +kernel
theorem dX4_tellFit_0 : decode cX4_tellFit 0 = .ok (.iconst 0, 1) := by decide +kernel
theorem dX4_tellFit_1 : decode cX4_tellFit 1 = .ok (.istore_n 1, 1) := by decide +kernel
theorem dX4_tellFit_2 : decode cX4_tellFit 2 = .ok (.iconst 0, 1) := by decide +kernel
theorem dX4_tellFit_3 : decode cX4_tellFit 3 = .ok (.istore_n 2, 1) := by decide +kernel
theorem dX4_tellFit_4 : decode cX4_tellFit 4 = .ok (.iload_n 2, 1) := by decide +kernel
theorem dX4_tellFit_5 : decode cX4_tellFit 5 = .ok (.aload_n 0, 1) := by decide +kernel
theorem dX4_tellFit_6 : decode cX4_tellFit 6 = .ok (.getfield 41, 3) := by decide +kernel
theorem dX4_tellFit_9 : decode cX4_tellFit 9 = .ok (.getfield 76, 3) := by decide +kernel
theorem dX4_tellFit_12 : decode cX4_tellFit 12 = .ok (.if_icmp .ge 50, 3) := by decide +kernel
theorem dX4_tellFit_15 : decode cX4_tellFit 15 = .ok (.aload_n 0, 1) := by decide +kernel
theorem dX4_tellFit_16 : decode cX4_tellFit 16 = .ok (.getfield 41, 3) := by decide +kernel
theorem dX4_tellFit_19 : decode cX4_tellFit 19 = .ok (.iload_n 2, 1) := by decide +kernel
theorem dX4_tellFit_20 : decode cX4_tellFit 20 = .ok (.invokevirtual 79, 3) := by decide +kernel
theorem dX4_tellFit_23 : decode cX4_tellFit 23 = .ok (.ifCond .eq 33, 3) := by decide +kernel
theorem dX4_tellFit_26 : decode cX4_tellFit 26 = .ok (.iconst 0, 1) := by decide +kernel
theorem dX4_tellFit_27 : decode cX4_tellFit 27 = .ok (.istore_n 3, 1) := by decide +kernel
theorem dX4_tellFit_28 : decode cX4_tellFit 28 = .ok (.iload_n 3, 1) := by decide +kernel
theorem dX4_tellFit_29 : decode cX4_tellFit 29 = .ok (.iconst 4, 1) := by decide +kernel
theorem dX4_tellFit_30 : decode cX4_tellFit 30 = .ok (.if_icmp .ge 23, 3) := by decide +kernel
theorem dX4_tellFit_33 : decode cX4_tellFit 33 = .ok (.aload_n 0, 1) := by decide +kernel
theorem dX4_tellFit_34 : decode cX4_tellFit 34 = .ok (.getfield 23, 3) := by decide +kernel
theorem dX4_tellFit_37 : decode cX4_tellFit 37 = .ok (.iload_n 1, 1) := by decide +kernel
theorem dX4_tellFit_38 : decode cX4_tellFit 38 = .ok (.aaload, 1) := by decide +kernel
theorem dX4_tellFit_39 : decode cX4_tellFit 39 = .ok (.iload_n 3, 1) := by decide +kernel
theorem dX4_tellFit_40 : decode cX4_tellFit 40 = .ok (.aload_n 0, 1) := by decide +kernel
theorem dX4_tellFit_41 : decode cX4_tellFit 41 = .ok (.iload_n 2, 1) := by decide +kernel
theorem dX4_tellFit_42 : decode cX4_tellFit 42 = .ok (.iload_n 3, 1) := by decide +kernel
theorem dX4_tellFit_43 : decode cX4_tellFit 43 = .ok (.invokevirtual 96, 3) := by decide +kernel
theorem dX4_tellFit_46 : decode cX4_tellFit 46 = .ok (.lastore, 1) := by decide +kernel
theorem dX4_tellFit_47 : decode cX4_tellFit 47 = .ok (.iinc 3 1, 3) := by decide +kernel
theorem dX4_tellFit_50 : decode cX4_tellFit 50 = .ok (.goto (-22), 3) := by decide +kernel
theorem dX4_tellFit_53 : decode cX4_tellFit 53 = .ok (.iinc 1 1, 3) := by decide +kernel
theorem dX4_tellFit_56 : decode cX4_tellFit 56 = .ok (.iinc 2 1, 3) := by decide +kernel
theorem dX4_tellFit_59 : decode cX4_tellFit 59 = .ok (.goto (-55), 3) := by decide +kernel
theorem dX4_tellFit_62 : decode cX4_tellFit 62 = .ok (.aload_n 0, 1) := by decide +kernel
theorem dX4_tellFit_63 : decode cX4_tellFit 63 = .ok (.getfield 34, 3) := by decide +kernel
theorem dX4_tellFit_66 : decode cX4_tellFit 66 = .ok (.iconst 0, 1) := by decide +kernel
theorem dX4_tellFit_67 : decode cX4_tellFit 67 = .ok (.invokevirtual 102, 3) := by decide +kernel
theorem dX4_tellFit_70 : decode cX4_tellFit 70 = .ok (.iconst (-1), 1) := by decide +kernel
theorem dX4_tellFit_71 : decode cX4_tellFit 71 = .ok (.istore_n 2, 1) := by decide +kernel
theorem dX4_tellFit_72 : decode cX4_tellFit 72 = .ok (.iconst 0, 1) := by decide +kernel
theorem dX4_tellFit_73 : decode cX4_tellFit 73 = .ok (.istore_n 3, 1) := by decide +kernel
theorem dX4_tellFit_74 : decode cX4_tellFit 74 = .ok (.iload_n 3, 1) := by decide +kernel
theorem dX4_tellFit_75 : decode cX4_tellFit 75 = .ok (.sipush 1331, 3) := by decide +kernel
theorem dX4_tellFit_78 : decode cX4_tellFit 78 = .ok (.if_icmp .ge 42, 3) := by decide +kernel
theorem dX4_tellFit_81 : decode cX4_tellFit 81 = .ok (.iload_n 3, 1) := by decide +kernel
theorem dX4_tellFit_82 : decode cX4_tellFit 82 = .ok (.bipush 121, 2) := by decide +kernel
theorem dX4_tellFit_84 : decode cX4_tellFit 84 = .ok (.idiv, 1) := by decide +kernel
theorem dX4_tellFit_85 : decode cX4_tellFit 85 = .ok (.iload_n 3, 1) := by decide +kernel
theorem dX4_tellFit_86 : decode cX4_tellFit 86 = .ok (.bipush 11, 2) := by decide +kernel
theorem dX4_tellFit_88 : decode cX4_tellFit 88 = .ok (.idiv, 1) := by decide +kernel
theorem dX4_tellFit_89 : decode cX4_tellFit 89 = .ok (.bipush 11, 2) := by decide +kernel
theorem dX4_tellFit_91 : decode cX4_tellFit 91 = .ok (.irem, 1) := by decide +kernel
theorem dX4_tellFit_92 : decode cX4_tellFit 92 = .ok (.iadd, 1) := by decide +kernel
theorem dX4_tellFit_93 : decode cX4_tellFit 93 = .ok (.iload_n 3, 1) := by decide +kernel
theorem dX4_tellFit_94 : decode cX4_tellFit 94 = .ok (.bipush 11, 2) := by decide +kernel
theorem dX4_tellFit_96 : decode cX4_tellFit 96 = .ok (.irem, 1) := by decide +kernel
theorem dX4_tellFit_97 : decode cX4_tellFit 97 = .ok (.iadd, 1) := by decide +kernel
theorem dX4_tellFit_98 : decode cX4_tellFit 98 = .ok (.bipush 10, 2) := by decide +kernel
theorem dX4_tellFit_100 : decode cX4_tellFit 100 = .ok (.if_icmp .gt 14, 3) := by decide +kernel
theorem dX4_tellFit_103 : decode cX4_tellFit 103 = .ok (.aload_n 0, 1) := by decide +kernel
theorem dX4_tellFit_104 : decode cX4_tellFit 104 = .ok (.iload_n 3, 1) := by decide +kernel
theorem dX4_tellFit_105 : decode cX4_tellFit 105 = .ok (.iload_n 1, 1) := by decide +kernel
theorem dX4_tellFit_106 : decode cX4_tellFit 106 = .ok (.invokevirtual 105, 3) := by decide +kernel
theorem dX4_tellFit_109 : decode cX4_tellFit 109 = .ok (.ifCond .eq 5, 3) := by decide +kernel
theorem dX4_tellFit_112 : decode cX4_tellFit 112 = .ok (.iload_n 3, 1) := by decide +kernel
theorem dX4_tellFit_113 : decode cX4_tellFit 113 = .ok (.istore_n 2, 1) := by decide +kernel
theorem dX4_tellFit_114 : decode cX4_tellFit 114 = .ok (.iinc 3 1, 3) := by decide +kernel
theorem dX4_tellFit_117 : decode cX4_tellFit 117 = .ok (.goto (-43), 3) := by decide +kernel
theorem dX4_tellFit_120 : decode cX4_tellFit 120 = .ok (.iload_n 2, 1) := by decide +kernel
theorem dX4_tellFit_121 : decode cX4_tellFit 121 = .ok (.iconst (-1), 1) := by decide +kernel
theorem dX4_tellFit_122 : decode cX4_tellFit 122 = .ok (.if_icmp .ne 6, 3) := by decide +kernel
theorem dX4_tellFit_125 : decode cX4_tellFit 125 = .ok (.bipush (-2), 2) := by decide +kernel
theorem dX4_tellFit_127 : decode cX4_tellFit 127 = .ok (.ireturn, 1) := by decide +kernel
theorem dX4_tellFit_128 : decode cX4_tellFit 128 = .ok (.aload_n 0, 1) := by decide +kernel
theorem dX4_tellFit_129 : decode cX4_tellFit 129 = .ok (.getfield 45, 3) := by decide +kernel
theorem dX4_tellFit_132 : decode cX4_tellFit 132 = .ok (.invokevirtual 109, 3) := by decide +kernel
theorem dX4_tellFit_135 : decode cX4_tellFit 135 = .ok (.iconst 0, 1) := by decide +kernel
theorem dX4_tellFit_136 : decode cX4_tellFit 136 = .ok (.istore_n 3, 1) := by decide +kernel
theorem dX4_tellFit_137 : decode cX4_tellFit 137 = .ok (.iload_n 3, 1) := by decide +kernel
theorem dX4_tellFit_138 : decode cX4_tellFit 138 = .ok (.iconst 4, 1) := by decide +kernel
theorem dX4_tellFit_139 : decode cX4_tellFit 139 = .ok (.if_icmp .ge 22, 3) := by decide +kernel
theorem dX4_tellFit_142 : decode cX4_tellFit 142 = .ok (.aload_n 0, 1) := by decide +kernel
theorem dX4_tellFit_143 : decode cX4_tellFit 143 = .ok (.getfield 45, 3) := by decide +kernel
theorem dX4_tellFit_146 : decode cX4_tellFit 146 = .ok (.iload_n 2, 1) := by decide +kernel
theorem dX4_tellFit_147 : decode cX4_tellFit 147 = .ok (.iload_n 3, 1) := by decide +kernel
theorem dX4_tellFit_148 : decode cX4_tellFit 148 = .ok (.invokestatic 114, 3) := by decide +kernel
theorem dX4_tellFit_151 : decode cX4_tellFit 151 = .ok (.i2l, 1) := by decide +kernel
theorem dX4_tellFit_152 : decode cX4_tellFit 152 = .ok (.invokevirtual 117, 3) := by decide +kernel
theorem dX4_tellFit_155 : decode cX4_tellFit 155 = .ok (.iinc 3 1, 3) := by decide +kernel
theorem dX4_tellFit_158 : decode cX4_tellFit 158 = .ok (.goto (-21), 3) := by decide +kernel
theorem dX4_tellFit_161 : decode cX4_tellFit 161 = .ok (.iload_n 1, 1) := by decide +kernel
theorem dX4_tellFit_162 : decode cX4_tellFit 162 = .ok (.ireturn, 1) := by decide +kernel
theorem dX4_tenths_0 : decode cX4_tenths 0 = .ok (.iload_n 0, 1) := by decide +kernel
theorem dX4_tenths_1 : decode cX4_tenths 1 = .ok (.bipush 121, 2) := by decide +kernel
theorem dX4_tenths_3 : decode cX4_tenths 3 = .ok (.idiv, 1) := by decide +kernel
theorem dX4_tenths_4 : decode cX4_tenths 4 = .ok (.istore_n 2, 1) := by decide +kernel
theorem dX4_tenths_5 : decode cX4_tenths 5 = .ok (.iload_n 0, 1) := by decide +kernel
theorem dX4_tenths_6 : decode cX4_tenths 6 = .ok (.bipush 11, 2) := by decide +kernel
theorem dX4_tenths_8 : decode cX4_tenths 8 = .ok (.idiv, 1) := by decide +kernel
theorem dX4_tenths_9 : decode cX4_tenths 9 = .ok (.bipush 11, 2) := by decide +kernel
theorem dX4_tenths_11 : decode cX4_tenths 11 = .ok (.irem, 1) := by decide +kernel
theorem dX4_tenths_12 : decode cX4_tenths 12 = .ok (.istore_n 3, 1) := by decide +kernel
theorem dX4_tenths_13 : decode cX4_tenths 13 = .ok (.iload_n 0, 1) := by decide +kernel
theorem dX4_tenths_14 : decode cX4_tenths 14 = .ok (.bipush 11, 2) := by decide +kernel
theorem dX4_tenths_16 : decode cX4_tenths 16 = .ok (.irem, 1) := by decide +kernel
theorem dX4_tenths_17 : decode cX4_tenths 17 = .ok (.istore 4, 2) := by decide +kernel
theorem dX4_tenths_19 : decode cX4_tenths 19 = .ok (.iload_n 1, 1) := by decide +kernel
theorem dX4_tenths_20 : decode cX4_tenths 20 = .ok (.tableswitch 35 0 2 #[28, 30, 32], 28) := by decide +kernel
theorem dX4_tenths_48 : decode cX4_tenths 48 = .ok (.iload_n 2, 1) := by decide +kernel
theorem dX4_tenths_49 : decode cX4_tenths 49 = .ok (.ireturn, 1) := by decide +kernel
theorem dX4_tenths_50 : decode cX4_tenths 50 = .ok (.iload_n 3, 1) := by decide +kernel
theorem dX4_tenths_51 : decode cX4_tenths 51 = .ok (.ireturn, 1) := by decide +kernel
theorem dX4_tenths_52 : decode cX4_tenths 52 = .ok (.iload 4, 2) := by decide +kernel
theorem dX4_tenths_54 : decode cX4_tenths 54 = .ok (.ireturn, 1) := by decide +kernel
theorem dX4_tenths_55 : decode cX4_tenths 55 = .ok (.bipush 10, 2) := by decide +kernel
theorem dX4_tenths_57 : decode cX4_tenths 57 = .ok (.iload_n 2, 1) := by decide +kernel
theorem dX4_tenths_58 : decode cX4_tenths 58 = .ok (.isub, 1) := by decide +kernel
theorem dX4_tenths_59 : decode cX4_tenths 59 = .ok (.iload_n 3, 1) := by decide +kernel
theorem dX4_tenths_60 : decode cX4_tenths 60 = .ok (.isub, 1) := by decide +kernel
theorem dX4_tenths_61 : decode cX4_tenths 61 = .ok (.iload 4, 2) := by decide +kernel
theorem dX4_tenths_63 : decode cX4_tenths 63 = .ok (.isub, 1) := by decide +kernel
theorem dX4_tenths_64 : decode cX4_tenths 64 = .ok (.ireturn, 1) := by decide +kernel
theorem dX4_isLikelier_0 : decode cX4_isLikelier 0 = .ok (.aload_n 0, 1) := by decide +kernel
theorem dX4_isLikelier_1 : decode cX4_isLikelier 1 = .ok (.getfield 38, 3) := by decide +kernel
theorem dX4_isLikelier_4 : decode cX4_isLikelier 4 = .ok (.iconst 1, 1) := by decide +kernel
theorem dX4_isLikelier_5 : decode cX4_isLikelier 5 = .ok (.invokevirtual 102, 3) := by decide +kernel
theorem dX4_isLikelier_8 : decode cX4_isLikelier 8 = .ok (.iconst 0, 1) := by decide +kernel
theorem dX4_isLikelier_9 : decode cX4_isLikelier 9 = .ok (.istore_n 3, 1) := by decide +kernel
theorem dX4_isLikelier_10 : decode cX4_isLikelier 10 = .ok (.iload_n 3, 1) := by decide +kernel
theorem dX4_isLikelier_11 : decode cX4_isLikelier 11 = .ok (.iload_n 2, 1) := by decide +kernel
theorem dX4_isLikelier_12 : decode cX4_isLikelier 12 = .ok (.if_icmp .ge 67, 3) := by decide +kernel
theorem dX4_isLikelier_15 : decode cX4_isLikelier 15 = .ok (.lconst 0, 1) := by decide +kernel
theorem dX4_isLikelier_16 : decode cX4_isLikelier 16 = .ok (.lstore 4, 2) := by decide +kernel
theorem dX4_isLikelier_18 : decode cX4_isLikelier 18 = .ok (.iconst 0, 1) := by decide +kernel
theorem dX4_isLikelier_19 : decode cX4_isLikelier 19 = .ok (.istore 6, 2) := by decide +kernel
theorem dX4_isLikelier_21 : decode cX4_isLikelier 21 = .ok (.iload 6, 2) := by decide +kernel
theorem dX4_isLikelier_23 : decode cX4_isLikelier 23 = .ok (.iconst 4, 1) := by decide +kernel
theorem dX4_isLikelier_24 : decode cX4_isLikelier 24 = .ok (.if_icmp .ge 31, 3) := by decide +kernel
theorem dX4_isLikelier_27 : decode cX4_isLikelier 27 = .ok (.lload 4, 2) := by decide +kernel
theorem dX4_isLikelier_29 : decode cX4_isLikelier 29 = .ok (.iload_n 1, 1) := by decide +kernel
theorem dX4_isLikelier_30 : decode cX4_isLikelier 30 = .ok (.iload 6, 2) := by decide +kernel
theorem dX4_isLikelier_32 : decode cX4_isLikelier 32 = .ok (.invokestatic 114, 3) := by decide +kernel
theorem dX4_isLikelier_35 : decode cX4_isLikelier 35 = .ok (.i2l, 1) := by decide +kernel
theorem dX4_isLikelier_36 : decode cX4_isLikelier 36 = .ok (.aload_n 0, 1) := by decide +kernel
theorem dX4_isLikelier_37 : decode cX4_isLikelier 37 = .ok (.getfield 23, 3) := by decide +kernel
theorem dX4_isLikelier_40 : decode cX4_isLikelier 40 = .ok (.iload_n 3, 1) := by decide +kernel
theorem dX4_isLikelier_41 : decode cX4_isLikelier 41 = .ok (.aaload, 1) := by decide +kernel
theorem dX4_isLikelier_42 : decode cX4_isLikelier 42 = .ok (.iload 6, 2) := by decide +kernel
theorem dX4_isLikelier_44 : decode cX4_isLikelier 44 = .ok (.laload, 1) := by decide +kernel
theorem dX4_isLikelier_45 : decode cX4_isLikelier 45 = .ok (.lmul, 1) := by decide +kernel
theorem dX4_isLikelier_46 : decode cX4_isLikelier 46 = .ok (.ladd, 1) := by decide +kernel
theorem dX4_isLikelier_47 : decode cX4_isLikelier 47 = .ok (.lstore 4, 2) := by decide +kernel
theorem dX4_isLikelier_49 : decode cX4_isLikelier 49 = .ok (.iinc 6 1, 3) := by decide +kernel
theorem dX4_isLikelier_52 : decode cX4_isLikelier 52 = .ok (.goto (-31), 3) := by decide +kernel
theorem dX4_isLikelier_55 : decode cX4_isLikelier 55 = .ok (.lload 4, 2) := by decide +kernel
theorem dX4_isLikelier_57 : decode cX4_isLikelier 57 = .ok (.lconst 0, 1) := by decide +kernel
theorem dX4_isLikelier_58 : decode cX4_isLikelier 58 = .ok (.lcmp, 1) := by decide +kernel
theorem dX4_isLikelier_59 : decode cX4_isLikelier 59 = .ok (.ifCond .ne 5, 3) := by decide +kernel
theorem dX4_isLikelier_62 : decode cX4_isLikelier 62 = .ok (.iconst 0, 1) := by decide +kernel
theorem dX4_isLikelier_63 : decode cX4_isLikelier 63 = .ok (.ireturn, 1) := by decide +kernel
theorem dX4_isLikelier_64 : decode cX4_isLikelier 64 = .ok (.aload_n 0, 1) := by decide +kernel
theorem dX4_isLikelier_65 : decode cX4_isLikelier 65 = .ok (.getfield 38, 3) := by decide +kernel
theorem dX4_isLikelier_68 : decode cX4_isLikelier 68 = .ok (.lload 4, 2) := by decide +kernel
theorem dX4_isLikelier_70 : decode cX4_isLikelier 70 = .ok (.invokevirtual 121, 3) := by decide +kernel
theorem dX4_isLikelier_73 : decode cX4_isLikelier 73 = .ok (.iinc 3 1, 3) := by decide +kernel
theorem dX4_isLikelier_76 : decode cX4_isLikelier 76 = .ok (.goto (-66), 3) := by decide +kernel
theorem dX4_isLikelier_79 : decode cX4_isLikelier 79 = .ok (.aload_n 0, 1) := by decide +kernel
theorem dX4_isLikelier_80 : decode cX4_isLikelier 80 = .ok (.getfield 38, 3) := by decide +kernel
theorem dX4_isLikelier_83 : decode cX4_isLikelier 83 = .ok (.aload_n 0, 1) := by decide +kernel
theorem dX4_isLikelier_84 : decode cX4_isLikelier 84 = .ok (.getfield 34, 3) := by decide +kernel
theorem dX4_isLikelier_87 : decode cX4_isLikelier 87 = .ok (.invokevirtual 124, 3) := by decide +kernel
theorem dX4_isLikelier_90 : decode cX4_isLikelier 90 = .ok (.ifCond .ne 5, 3) := by decide +kernel
theorem dX4_isLikelier_93 : decode cX4_isLikelier 93 = .ok (.iconst 0, 1) := by decide +kernel
theorem dX4_isLikelier_94 : decode cX4_isLikelier 94 = .ok (.ireturn, 1) := by decide +kernel
theorem dX4_isLikelier_95 : decode cX4_isLikelier 95 = .ok (.aload_n 0, 1) := by decide +kernel
theorem dX4_isLikelier_96 : decode cX4_isLikelier 96 = .ok (.getfield 34, 3) := by decide +kernel
theorem dX4_isLikelier_99 : decode cX4_isLikelier 99 = .ok (.astore_n 3, 1) := by decide +kernel
theorem dX4_isLikelier_100 : decode cX4_isLikelier 100 = .ok (.aload_n 0, 1) := by decide +kernel
theorem dX4_isLikelier_101 : decode cX4_isLikelier 101 = .ok (.aload_n 0, 1) := by decide +kernel
theorem dX4_isLikelier_102 : decode cX4_isLikelier 102 = .ok (.getfield 38, 3) := by decide +kernel
theorem dX4_isLikelier_105 : decode cX4_isLikelier 105 = .ok (.putfield 34, 3) := by decide +kernel
theorem dX4_isLikelier_108 : decode cX4_isLikelier 108 = .ok (.aload_n 0, 1) := by decide +kernel
theorem dX4_isLikelier_109 : decode cX4_isLikelier 109 = .ok (.aload_n 3, 1) := by decide +kernel
theorem dX4_isLikelier_110 : decode cX4_isLikelier 110 = .ok (.putfield 38, 3) := by decide +kernel
theorem dX4_isLikelier_113 : decode cX4_isLikelier 113 = .ok (.iconst 1, 1) := by decide +kernel
theorem dX4_isLikelier_114 : decode cX4_isLikelier 114 = .ok (.ireturn, 1) := by decide +kernel
theorem dX4_fillSums_0 : decode cX4_fillSums 0 = .ok (.iconst 0, 1) := by decide +kernel
theorem dX4_fillSums_1 : decode cX4_fillSums 1 = .ok (.istore_n 2, 1) := by decide +kernel
theorem dX4_fillSums_2 : decode cX4_fillSums 2 = .ok (.iload_n 2, 1) := by decide +kernel
theorem dX4_fillSums_3 : decode cX4_fillSums 3 = .ok (.aload_n 0, 1) := by decide +kernel
theorem dX4_fillSums_4 : decode cX4_fillSums 4 = .ok (.getfield 41, 3) := by decide +kernel
theorem dX4_fillSums_7 : decode cX4_fillSums 7 = .ok (.getfield 76, 3) := by decide +kernel
theorem dX4_fillSums_10 : decode cX4_fillSums 10 = .ok (.if_icmp .ge 36, 3) := by decide +kernel
theorem dX4_fillSums_13 : decode cX4_fillSums 13 = .ok (.aload_n 0, 1) := by decide +kernel
theorem dX4_fillSums_14 : decode cX4_fillSums 14 = .ok (.getfield 26, 3) := by decide +kernel
theorem dX4_fillSums_17 : decode cX4_fillSums 17 = .ok (.iload_n 2, 1) := by decide +kernel
theorem dX4_fillSums_18 : decode cX4_fillSums 18 = .ok (.aload_n 0, 1) := by decide +kernel
theorem dX4_fillSums_19 : decode cX4_fillSums 19 = .ok (.getfield 41, 3) := by decide +kernel
theorem dX4_fillSums_22 : decode cX4_fillSums 22 = .ok (.iload_n 2, 1) := by decide +kernel
theorem dX4_fillSums_23 : decode cX4_fillSums 23 = .ok (.invokevirtual 79, 3) := by decide +kernel
theorem dX4_fillSums_26 : decode cX4_fillSums 26 = .ok (.ifCond .eq 12, 3) := by decide +kernel
theorem dX4_fillSums_29 : decode cX4_fillSums 29 = .ok (.aload_n 0, 1) := by decide +kernel
theorem dX4_fillSums_30 : decode cX4_fillSums 30 = .ok (.iload_n 2, 1) := by decide +kernel
theorem dX4_fillSums_31 : decode cX4_fillSums 31 = .ok (.iload_n 1, 1) := by decide +kernel
theorem dX4_fillSums_32 : decode cX4_fillSums 32 = .ok (.invokevirtual 93, 3) := by decide +kernel
theorem dX4_fillSums_35 : decode cX4_fillSums 35 = .ok (.goto 4, 3) := by decide +kernel
theorem dX4_fillSums_38 : decode cX4_fillSums 38 = .ok (.iconst (-1), 1) := by decide +kernel
theorem dX4_fillSums_39 : decode cX4_fillSums 39 = .ok (.iastore, 1) := by decide +kernel
theorem dX4_fillSums_40 : decode cX4_fillSums 40 = .ok (.iinc 2 1, 3) := by decide +kernel
theorem dX4_fillSums_43 : decode cX4_fillSums 43 = .ok (.goto (-41), 3) := by decide +kernel
theorem dX4_fillSums_46 : decode cX4_fillSums 46 = .ok (.return_, 1) := by decide +kernel
theorem dX4_isNamed_0 : decode cX4_isNamed 0 = .ok (.aload_n 0, 1) := by decide +kernel
theorem dX4_isNamed_1 : decode cX4_isNamed 1 = .ok (.getfield 26, 3) := by decide +kernel
theorem dX4_isNamed_4 : decode cX4_isNamed 4 = .ok (.iload_n 1, 1) := by decide +kernel
theorem dX4_isNamed_5 : decode cX4_isNamed 5 = .ok (.iaload, 1) := by decide +kernel
theorem dX4_isNamed_6 : decode cX4_isNamed 6 = .ok (.ifCond .lt 17, 3) := by decide +kernel
theorem dX4_isNamed_9 : decode cX4_isNamed 9 = .ok (.aload_n 0, 1) := by decide +kernel
theorem dX4_isNamed_10 : decode cX4_isNamed 10 = .ok (.getfield 26, 3) := by decide +kernel
theorem dX4_isNamed_13 : decode cX4_isNamed 13 = .ok (.iload_n 1, 1) := by decide +kernel
theorem dX4_isNamed_14 : decode cX4_isNamed 14 = .ok (.iaload, 1) := by decide +kernel
theorem dX4_isNamed_15 : decode cX4_isNamed 15 = .ok (.iload_n 2, 1) := by decide +kernel
theorem dX4_isNamed_16 : decode cX4_isNamed 16 = .ok (.if_icmp .lt 7, 3) := by decide +kernel
theorem dX4_isNamed_19 : decode cX4_isNamed 19 = .ok (.iconst 1, 1) := by decide +kernel
theorem dX4_isNamed_20 : decode cX4_isNamed 20 = .ok (.goto 4, 3) := by decide +kernel
theorem dX4_isNamed_23 : decode cX4_isNamed 23 = .ok (.iconst 0, 1) := by decide +kernel
theorem dX4_isNamed_24 : decode cX4_isNamed 24 = .ok (.ireturn, 1) := by decide +kernel
theorem dX4_wronglyNamed_0 : decode cX4_wronglyNamed 0 = .ok (.lconst 0, 1) := by decide +kernel
theorem dX4_wronglyNamed_1 : decode cX4_wronglyNamed 1 = .ok (.lstore_n 2, 1) := by decide +kernel
theorem dX4_wronglyNamed_2 : decode cX4_wronglyNamed 2 = .ok (.iconst 0, 1) := by decide +kernel
theorem dX4_wronglyNamed_3 : decode cX4_wronglyNamed 3 = .ok (.istore 4, 2) := by decide +kernel
theorem dX4_wronglyNamed_5 : decode cX4_wronglyNamed 5 = .ok (.iload 4, 2) := by decide +kernel
theorem dX4_wronglyNamed_7 : decode cX4_wronglyNamed 7 = .ok (.aload_n 0, 1) := by decide +kernel
theorem dX4_wronglyNamed_8 : decode cX4_wronglyNamed 8 = .ok (.getfield 41, 3) := by decide +kernel
theorem dX4_wronglyNamed_11 : decode cX4_wronglyNamed 11 = .ok (.getfield 76, 3) := by decide +kernel
theorem dX4_wronglyNamed_14 : decode cX4_wronglyNamed 14 = .ok (.if_icmp .ge 37, 3) := by decide +kernel
theorem dX4_wronglyNamed_17 : decode cX4_wronglyNamed 17 = .ok (.lload_n 2, 1) := by decide +kernel
theorem dX4_wronglyNamed_18 : decode cX4_wronglyNamed 18 = .ok (.aload_n 0, 1) := by decide +kernel
theorem dX4_wronglyNamed_19 : decode cX4_wronglyNamed 19 = .ok (.iload 4, 2) := by decide +kernel
theorem dX4_wronglyNamed_21 : decode cX4_wronglyNamed 21 = .ok (.iload_n 1, 1) := by decide +kernel
theorem dX4_wronglyNamed_22 : decode cX4_wronglyNamed 22 = .ok (.invokevirtual 128, 3) := by decide +kernel
theorem dX4_wronglyNamed_25 : decode cX4_wronglyNamed 25 = .ok (.ifCond .eq 17, 3) := by decide +kernel
theorem dX4_wronglyNamed_28 : decode cX4_wronglyNamed 28 = .ok (.ldc 131, 2) := by decide +kernel
theorem dX4_wronglyNamed_30 : decode cX4_wronglyNamed 30 = .ok (.aload_n 0, 1) := by decide +kernel
theorem dX4_wronglyNamed_31 : decode cX4_wronglyNamed 31 = .ok (.getfield 26, 3) := by decide +kernel
theorem dX4_wronglyNamed_34 : decode cX4_wronglyNamed 34 = .ok (.iload 4, 2) := by decide +kernel
theorem dX4_wronglyNamed_36 : decode cX4_wronglyNamed 36 = .ok (.iaload, 1) := by decide +kernel
theorem dX4_wronglyNamed_37 : decode cX4_wronglyNamed 37 = .ok (.isub, 1) := by decide +kernel
theorem dX4_wronglyNamed_38 : decode cX4_wronglyNamed 38 = .ok (.i2l, 1) := by decide +kernel
theorem dX4_wronglyNamed_39 : decode cX4_wronglyNamed 39 = .ok (.goto 4, 3) := by decide +kernel
theorem dX4_wronglyNamed_42 : decode cX4_wronglyNamed 42 = .ok (.lconst 0, 1) := by decide +kernel
theorem dX4_wronglyNamed_43 : decode cX4_wronglyNamed 43 = .ok (.ladd, 1) := by decide +kernel
theorem dX4_wronglyNamed_44 : decode cX4_wronglyNamed 44 = .ok (.lstore_n 2, 1) := by decide +kernel
theorem dX4_wronglyNamed_45 : decode cX4_wronglyNamed 45 = .ok (.iinc 4 1, 3) := by decide +kernel
theorem dX4_wronglyNamed_48 : decode cX4_wronglyNamed 48 = .ok (.goto (-43), 3) := by decide +kernel
theorem dX4_wronglyNamed_51 : decode cX4_wronglyNamed 51 = .ok (.lload_n 2, 1) := by decide +kernel
theorem dX4_wronglyNamed_52 : decode cX4_wronglyNamed 52 = .ok (.lreturn, 1) := by decide +kernel
theorem dX4_tellNamed_0 : decode cX4_tellNamed 0 = .ok (.iload_n 1, 1) := by decide +kernel
theorem dX4_tellNamed_1 : decode cX4_tellNamed 1 = .ok (.iconst 1, 1) := by decide +kernel
theorem dX4_tellNamed_2 : decode cX4_tellNamed 2 = .ok (.bipush 15, 2) := by decide +kernel
theorem dX4_tellNamed_4 : decode cX4_tellNamed 4 = .ok (.invokestatic 72, 3) := by decide +kernel
theorem dX4_tellNamed_7 : decode cX4_tellNamed 7 = .ok (.ifCond .eq 13, 3) := by decide +kernel
theorem dX4_tellNamed_10 : decode cX4_tellNamed 10 = .ok (.iload_n 2, 1) := by decide +kernel
theorem dX4_tellNamed_11 : decode cX4_tellNamed 11 = .ok (.iconst 0, 1) := by decide +kernel
theorem dX4_tellNamed_12 : decode cX4_tellNamed 12 = .ok (.ldc 131, 2) := by decide +kernel
theorem dX4_tellNamed_14 : decode cX4_tellNamed 14 = .ok (.invokestatic 72, 3) := by decide +kernel
theorem dX4_tellNamed_17 : decode cX4_tellNamed 17 = .ok (.ifCond .ne 5, 3) := by decide +kernel
theorem dX4_tellNamed_20 : decode cX4_tellNamed 20 = .ok (.iconst (-1), 1) := by decide +kernel
theorem dX4_tellNamed_21 : decode cX4_tellNamed 21 = .ok (.ireturn, 1) := by decide +kernel
theorem dX4_tellNamed_22 : decode cX4_tellNamed 22 = .ok (.aload_n 0, 1) := by decide +kernel
theorem dX4_tellNamed_23 : decode cX4_tellNamed 23 = .ok (.iload_n 1, 1) := by decide +kernel
theorem dX4_tellNamed_24 : decode cX4_tellNamed 24 = .ok (.invokevirtual 132, 3) := by decide +kernel
theorem dX4_tellNamed_27 : decode cX4_tellNamed 27 = .ok (.iconst 0, 1) := by decide +kernel
theorem dX4_tellNamed_28 : decode cX4_tellNamed 28 = .ok (.istore_n 3, 1) := by decide +kernel
theorem dX4_tellNamed_29 : decode cX4_tellNamed 29 = .ok (.iconst 0, 1) := by decide +kernel
theorem dX4_tellNamed_30 : decode cX4_tellNamed 30 = .ok (.istore 4, 2) := by decide +kernel
theorem dX4_tellNamed_32 : decode cX4_tellNamed 32 = .ok (.lconst 0, 1) := by decide +kernel
theorem dX4_tellNamed_33 : decode cX4_tellNamed 33 = .ok (.lstore 5, 2) := by decide +kernel
theorem dX4_tellNamed_35 : decode cX4_tellNamed 35 = .ok (.iconst 0, 1) := by decide +kernel
theorem dX4_tellNamed_36 : decode cX4_tellNamed 36 = .ok (.istore 7, 2) := by decide +kernel
theorem dX4_tellNamed_38 : decode cX4_tellNamed 38 = .ok (.iload 7, 2) := by decide +kernel
theorem dX4_tellNamed_40 : decode cX4_tellNamed 40 = .ok (.aload_n 0, 1) := by decide +kernel
theorem dX4_tellNamed_41 : decode cX4_tellNamed 41 = .ok (.getfield 41, 3) := by decide +kernel
theorem dX4_tellNamed_44 : decode cX4_tellNamed 44 = .ok (.getfield 76, 3) := by decide +kernel
theorem dX4_tellNamed_47 : decode cX4_tellNamed 47 = .ok (.if_icmp .ge 57, 3) := by decide +kernel
theorem dX4_tellNamed_50 : decode cX4_tellNamed 50 = .ok (.aload_n 0, 1) := by decide +kernel
theorem dX4_tellNamed_51 : decode cX4_tellNamed 51 = .ok (.iload 7, 2) := by decide +kernel
theorem dX4_tellNamed_53 : decode cX4_tellNamed 53 = .ok (.iload_n 2, 1) := by decide +kernel
theorem dX4_tellNamed_54 : decode cX4_tellNamed 54 = .ok (.invokevirtual 128, 3) := by decide +kernel
theorem dX4_tellNamed_57 : decode cX4_tellNamed 57 = .ok (.ifCond .eq 18, 3) := by decide +kernel
theorem dX4_tellNamed_60 : decode cX4_tellNamed 60 = .ok (.iinc 3 1, 3) := by decide +kernel
theorem dX4_tellNamed_63 : decode cX4_tellNamed 63 = .ok (.iload 4, 2) := by decide +kernel
theorem dX4_tellNamed_65 : decode cX4_tellNamed 65 = .ok (.iconst 1, 1) := by decide +kernel
theorem dX4_tellNamed_66 : decode cX4_tellNamed 66 = .ok (.iload 7, 2) := by decide +kernel
theorem dX4_tellNamed_68 : decode cX4_tellNamed 68 = .ok (.ishl, 1) := by decide +kernel
theorem dX4_tellNamed_69 : decode cX4_tellNamed 69 = .ok (.ior, 1) := by decide +kernel
theorem dX4_tellNamed_70 : decode cX4_tellNamed 70 = .ok (.istore 4, 2) := by decide +kernel
theorem dX4_tellNamed_72 : decode cX4_tellNamed 72 = .ok (.goto 26, 3) := by decide +kernel
theorem dX4_tellNamed_75 : decode cX4_tellNamed 75 = .ok (.aload_n 0, 1) := by decide +kernel
theorem dX4_tellNamed_76 : decode cX4_tellNamed 76 = .ok (.getfield 26, 3) := by decide +kernel
theorem dX4_tellNamed_79 : decode cX4_tellNamed 79 = .ok (.iload 7, 2) := by decide +kernel
theorem dX4_tellNamed_81 : decode cX4_tellNamed 81 = .ok (.iaload, 1) := by decide +kernel
theorem dX4_tellNamed_82 : decode cX4_tellNamed 82 = .ok (.ifCond .lt 16, 3) := by decide +kernel
theorem dX4_tellNamed_85 : decode cX4_tellNamed 85 = .ok (.lload 5, 2) := by decide +kernel
theorem dX4_tellNamed_87 : decode cX4_tellNamed 87 = .ok (.aload_n 0, 1) := by decide +kernel
theorem dX4_tellNamed_88 : decode cX4_tellNamed 88 = .ok (.getfield 26, 3) := by decide +kernel
theorem dX4_tellNamed_91 : decode cX4_tellNamed 91 = .ok (.iload 7, 2) := by decide +kernel
theorem dX4_tellNamed_93 : decode cX4_tellNamed 93 = .ok (.iaload, 1) := by decide +kernel
theorem dX4_tellNamed_94 : decode cX4_tellNamed 94 = .ok (.i2l, 1) := by decide +kernel
theorem dX4_tellNamed_95 : decode cX4_tellNamed 95 = .ok (.ladd, 1) := by decide +kernel
theorem dX4_tellNamed_96 : decode cX4_tellNamed 96 = .ok (.lstore 5, 2) := by decide +kernel
theorem dX4_tellNamed_98 : decode cX4_tellNamed 98 = .ok (.iinc 7 1, 3) := by decide +kernel
theorem dX4_tellNamed_101 : decode cX4_tellNamed 101 = .ok (.goto (-63), 3) := by decide +kernel
theorem dX4_tellNamed_104 : decode cX4_tellNamed 104 = .ok (.aload_n 0, 1) := by decide +kernel
theorem dX4_tellNamed_105 : decode cX4_tellNamed 105 = .ok (.getfield 45, 3) := by decide +kernel
theorem dX4_tellNamed_108 : decode cX4_tellNamed 108 = .ok (.invokevirtual 109, 3) := by decide +kernel
theorem dX4_tellNamed_111 : decode cX4_tellNamed 111 = .ok (.aload_n 0, 1) := by decide +kernel
theorem dX4_tellNamed_112 : decode cX4_tellNamed 112 = .ok (.getfield 45, 3) := by decide +kernel
theorem dX4_tellNamed_115 : decode cX4_tellNamed 115 = .ok (.iload 4, 2) := by decide +kernel
theorem dX4_tellNamed_117 : decode cX4_tellNamed 117 = .ok (.i2l, 1) := by decide +kernel
theorem dX4_tellNamed_118 : decode cX4_tellNamed 118 = .ok (.invokevirtual 117, 3) := by decide +kernel
theorem dX4_tellNamed_121 : decode cX4_tellNamed 121 = .ok (.aload_n 0, 1) := by decide +kernel
theorem dX4_tellNamed_122 : decode cX4_tellNamed 122 = .ok (.getfield 45, 3) := by decide +kernel
theorem dX4_tellNamed_125 : decode cX4_tellNamed 125 = .ok (.aload_n 0, 1) := by decide +kernel
theorem dX4_tellNamed_126 : decode cX4_tellNamed 126 = .ok (.iload_n 2, 1) := by decide +kernel
theorem dX4_tellNamed_127 : decode cX4_tellNamed 127 = .ok (.invokevirtual 135, 3) := by decide +kernel
theorem dX4_tellNamed_130 : decode cX4_tellNamed 130 = .ok (.invokevirtual 117, 3) := by decide +kernel
theorem dX4_tellNamed_133 : decode cX4_tellNamed 133 = .ok (.aload_n 0, 1) := by decide +kernel
theorem dX4_tellNamed_134 : decode cX4_tellNamed 134 = .ok (.getfield 45, 3) := by decide +kernel
theorem dX4_tellNamed_137 : decode cX4_tellNamed 137 = .ok (.lload 5, 2) := by decide +kernel
theorem dX4_tellNamed_139 : decode cX4_tellNamed 139 = .ok (.invokevirtual 117, 3) := by decide +kernel
theorem dX4_tellNamed_142 : decode cX4_tellNamed 142 = .ok (.iload_n 3, 1) := by decide +kernel
theorem dX4_tellNamed_143 : decode cX4_tellNamed 143 = .ok (.ireturn, 1) := by decide +kernel
theorem dX4_leastLine_0 : decode cX4_leastLine 0 = .ok (.iload_n 1, 1) := by decide +kernel
theorem dX4_leastLine_1 : decode cX4_leastLine 1 = .ok (.iconst 1, 1) := by decide +kernel
theorem dX4_leastLine_2 : decode cX4_leastLine 2 = .ok (.bipush 15, 2) := by decide +kernel
theorem dX4_leastLine_4 : decode cX4_leastLine 4 = .ok (.invokestatic 72, 3) := by decide +kernel
theorem dX4_leastLine_7 : decode cX4_leastLine 7 = .ok (.ifCond .eq 13, 3) := by decide +kernel
theorem dX4_leastLine_10 : decode cX4_leastLine 10 = .ok (.iload_n 2, 1) := by decide +kernel
theorem dX4_leastLine_11 : decode cX4_leastLine 11 = .ok (.iconst 0, 1) := by decide +kernel
theorem dX4_leastLine_12 : decode cX4_leastLine 12 = .ok (.ldc 139, 2) := by decide +kernel
theorem dX4_leastLine_14 : decode cX4_leastLine 14 = .ok (.invokestatic 72, 3) := by decide +kernel
theorem dX4_leastLine_17 : decode cX4_leastLine 17 = .ok (.ifCond .ne 5, 3) := by decide +kernel
theorem dX4_leastLine_20 : decode cX4_leastLine 20 = .ok (.iconst (-1), 1) := by decide +kernel
theorem dX4_leastLine_21 : decode cX4_leastLine 21 = .ok (.ireturn, 1) := by decide +kernel
theorem dX4_leastLine_22 : decode cX4_leastLine 22 = .ok (.aload_n 0, 1) := by decide +kernel
theorem dX4_leastLine_23 : decode cX4_leastLine 23 = .ok (.iload_n 1, 1) := by decide +kernel
theorem dX4_leastLine_24 : decode cX4_leastLine 24 = .ok (.invokevirtual 132, 3) := by decide +kernel
theorem dX4_leastLine_27 : decode cX4_leastLine 27 = .ok (.iconst 0, 1) := by decide +kernel
theorem dX4_leastLine_28 : decode cX4_leastLine 28 = .ok (.istore_n 3, 1) := by decide +kernel
theorem dX4_leastLine_29 : decode cX4_leastLine 29 = .ok (.iload_n 3, 1) := by decide +kernel
theorem dX4_leastLine_30 : decode cX4_leastLine 30 = .ok (.ldc 131, 2) := by decide +kernel
theorem dX4_leastLine_32 : decode cX4_leastLine 32 = .ok (.if_icmp .gt 25, 3) := by decide +kernel
theorem dX4_leastLine_35 : decode cX4_leastLine 35 = .ok (.aload_n 0, 1) := by decide +kernel
theorem dX4_leastLine_36 : decode cX4_leastLine 36 = .ok (.iload_n 3, 1) := by decide +kernel
theorem dX4_leastLine_37 : decode cX4_leastLine 37 = .ok (.invokevirtual 135, 3) := by decide +kernel
theorem dX4_leastLine_40 : decode cX4_leastLine 40 = .ok (.iload_n 2, 1) := by decide +kernel
theorem dX4_leastLine_41 : decode cX4_leastLine 41 = .ok (.i2l, 1) := by decide +kernel
theorem dX4_leastLine_42 : decode cX4_leastLine 42 = .ok (.lcmp, 1) := by decide +kernel
theorem dX4_leastLine_43 : decode cX4_leastLine 43 = .ok (.ifCond .gt 5, 3) := by decide +kernel
theorem dX4_leastLine_46 : decode cX4_leastLine 46 = .ok (.iload_n 3, 1) := by decide +kernel
theorem dX4_leastLine_47 : decode cX4_leastLine 47 = .ok (.ireturn, 1) := by decide +kernel
theorem dX4_leastLine_48 : decode cX4_leastLine 48 = .ok (.iinc 3 1000, 6) := by decide +kernel
theorem dX4_leastLine_54 : decode cX4_leastLine 54 = .ok (.goto (-25), 3) := by decide +kernel
theorem dX4_leastLine_57 : decode cX4_leastLine 57 = .ok (.bipush (-2), 2) := by decide +kernel
theorem dX4_leastLine_59 : decode cX4_leastLine 59 = .ok (.ireturn, 1) := by decide +kernel
theorem dX4_fewerIn_0 : decode cX4_fewerIn 0 = .ok (.aload_n 0, 1) := by decide +kernel
theorem dX4_fewerIn_1 : decode cX4_fewerIn 1 = .ok (.iload_n 1, 1) := by decide +kernel
theorem dX4_fewerIn_2 : decode cX4_fewerIn 2 = .ok (.iconst 0, 1) := by decide +kernel
theorem dX4_fewerIn_3 : decode cX4_fewerIn 3 = .ok (.invokevirtual 83, 3) := by decide +kernel
theorem dX4_fewerIn_6 : decode cX4_fewerIn 6 = .ok (.aload_n 0, 1) := by decide +kernel
theorem dX4_fewerIn_7 : decode cX4_fewerIn 7 = .ok (.iload_n 1, 1) := by decide +kernel
theorem dX4_fewerIn_8 : decode cX4_fewerIn 8 = .ok (.iconst 1, 1) := by decide +kernel
theorem dX4_fewerIn_9 : decode cX4_fewerIn 9 = .ok (.invokevirtual 83, 3) := by decide +kernel
theorem dX4_fewerIn_12 : decode cX4_fewerIn 12 = .ok (.isub, 1) := by decide +kernel
theorem dX4_fewerIn_13 : decode cX4_fewerIn 13 = .ok (.istore_n 2, 1) := by decide +kernel
theorem dX4_fewerIn_14 : decode cX4_fewerIn 14 = .ok (.iload_n 2, 1) := by decide +kernel
theorem dX4_fewerIn_15 : decode cX4_fewerIn 15 = .ok (.ifCond .le 7, 3) := by decide +kernel
theorem dX4_fewerIn_18 : decode cX4_fewerIn 18 = .ok (.iload_n 2, 1) := by decide +kernel
theorem dX4_fewerIn_19 : decode cX4_fewerIn 19 = .ok (.goto 4, 3) := by decide +kernel
theorem dX4_fewerIn_22 : decode cX4_fewerIn 22 = .ok (.iconst 0, 1) := by decide +kernel
theorem dX4_fewerIn_23 : decode cX4_fewerIn 23 = .ok (.ireturn, 1) := by decide +kernel
theorem dX4_tellMost_0 : decode cX4_tellMost 0 = .ok (.iconst 0, 1) := by decide +kernel
theorem dX4_tellMost_1 : decode cX4_tellMost 1 = .ok (.istore_n 1, 1) := by decide +kernel
theorem dX4_tellMost_2 : decode cX4_tellMost 2 = .ok (.iconst 0, 1) := by decide +kernel
theorem dX4_tellMost_3 : decode cX4_tellMost 3 = .ok (.istore_n 2, 1) := by decide +kernel
theorem dX4_tellMost_4 : decode cX4_tellMost 4 = .ok (.iconst 0, 1) := by decide +kernel
theorem dX4_tellMost_5 : decode cX4_tellMost 5 = .ok (.istore_n 3, 1) := by decide +kernel
theorem dX4_tellMost_6 : decode cX4_tellMost 6 = .ok (.iload_n 3, 1) := by decide +kernel
theorem dX4_tellMost_7 : decode cX4_tellMost 7 = .ok (.aload_n 0, 1) := by decide +kernel
theorem dX4_tellMost_8 : decode cX4_tellMost 8 = .ok (.getfield 41, 3) := by decide +kernel
theorem dX4_tellMost_11 : decode cX4_tellMost 11 = .ok (.getfield 76, 3) := by decide +kernel
theorem dX4_tellMost_14 : decode cX4_tellMost 14 = .ok (.if_icmp .ge 42, 3) := by decide +kernel
theorem dX4_tellMost_17 : decode cX4_tellMost 17 = .ok (.aload_n 0, 1) := by decide +kernel
theorem dX4_tellMost_18 : decode cX4_tellMost 18 = .ok (.iload_n 3, 1) := by decide +kernel
theorem dX4_tellMost_19 : decode cX4_tellMost 19 = .ok (.invokevirtual 140, 3) := by decide +kernel
theorem dX4_tellMost_22 : decode cX4_tellMost 22 = .ok (.istore 4, 2) := by decide +kernel
theorem dX4_tellMost_24 : decode cX4_tellMost 24 = .ok (.aload_n 0, 1) := by decide +kernel
theorem dX4_tellMost_25 : decode cX4_tellMost 25 = .ok (.getfield 26, 3) := by decide +kernel
theorem dX4_tellMost_28 : decode cX4_tellMost 28 = .ok (.iload_n 3, 1) := by decide +kernel
theorem dX4_tellMost_29 : decode cX4_tellMost 29 = .ok (.iload 4, 2) := by decide +kernel
theorem dX4_tellMost_31 : decode cX4_tellMost 31 = .ok (.iastore, 1) := by decide +kernel
theorem dX4_tellMost_32 : decode cX4_tellMost 32 = .ok (.iload_n 2, 1) := by decide +kernel
theorem dX4_tellMost_33 : decode cX4_tellMost 33 = .ok (.iload 4, 2) := by decide +kernel
theorem dX4_tellMost_35 : decode cX4_tellMost 35 = .ok (.iadd, 1) := by decide +kernel
theorem dX4_tellMost_36 : decode cX4_tellMost 36 = .ok (.istore_n 2, 1) := by decide +kernel
theorem dX4_tellMost_37 : decode cX4_tellMost 37 = .ok (.iload_n 1, 1) := by decide +kernel
theorem dX4_tellMost_38 : decode cX4_tellMost 38 = .ok (.iload 4, 2) := by decide +kernel
theorem dX4_tellMost_40 : decode cX4_tellMost 40 = .ok (.ifCond .le 7, 3) := by decide +kernel
theorem dX4_tellMost_43 : decode cX4_tellMost 43 = .ok (.iconst 1, 1) := by decide +kernel
theorem dX4_tellMost_44 : decode cX4_tellMost 44 = .ok (.goto 4, 3) := by decide +kernel
theorem dX4_tellMost_47 : decode cX4_tellMost 47 = .ok (.iconst 0, 1) := by decide +kernel
theorem dX4_tellMost_48 : decode cX4_tellMost 48 = .ok (.iadd, 1) := by decide +kernel
theorem dX4_tellMost_49 : decode cX4_tellMost 49 = .ok (.istore_n 1, 1) := by decide +kernel
theorem dX4_tellMost_50 : decode cX4_tellMost 50 = .ok (.iinc 3 1, 3) := by decide +kernel
theorem dX4_tellMost_53 : decode cX4_tellMost 53 = .ok (.goto (-47), 3) := by decide +kernel
theorem dX4_tellMost_56 : decode cX4_tellMost 56 = .ok (.iconst 0, 1) := by decide +kernel
theorem dX4_tellMost_57 : decode cX4_tellMost 57 = .ok (.istore_n 3, 1) := by decide +kernel
theorem dX4_tellMost_58 : decode cX4_tellMost 58 = .ok (.iload_n 2, 1) := by decide +kernel
theorem dX4_tellMost_59 : decode cX4_tellMost 59 = .ok (.istore 4, 2) := by decide +kernel
theorem dX4_tellMost_61 : decode cX4_tellMost 61 = .ok (.iconst 4, 1) := by decide +kernel
theorem dX4_tellMost_62 : decode cX4_tellMost 62 = .ok (.istore 5, 2) := by decide +kernel
theorem dX4_tellMost_64 : decode cX4_tellMost 64 = .ok (.iload 5, 2) := by decide +kernel
theorem dX4_tellMost_66 : decode cX4_tellMost 66 = .ok (.ifCond .le 60, 3) := by decide +kernel
theorem dX4_tellMost_69 : decode cX4_tellMost 69 = .ok (.iconst 0, 1) := by decide +kernel
theorem dX4_tellMost_70 : decode cX4_tellMost 70 = .ok (.istore 6, 2) := by decide +kernel
theorem dX4_tellMost_72 : decode cX4_tellMost 72 = .ok (.iload 6, 2) := by decide +kernel
theorem dX4_tellMost_74 : decode cX4_tellMost 74 = .ok (.aload_n 0, 1) := by decide +kernel
theorem dX4_tellMost_75 : decode cX4_tellMost 75 = .ok (.getfield 41, 3) := by decide +kernel
theorem dX4_tellMost_78 : decode cX4_tellMost 78 = .ok (.getfield 76, 3) := by decide +kernel
theorem dX4_tellMost_81 : decode cX4_tellMost 81 = .ok (.if_icmp .ge 39, 3) := by decide +kernel
theorem dX4_tellMost_84 : decode cX4_tellMost 84 = .ok (.iload 4, 2) := by decide +kernel
theorem dX4_tellMost_86 : decode cX4_tellMost 86 = .ok (.iconst 2, 1) := by decide +kernel
theorem dX4_tellMost_87 : decode cX4_tellMost 87 = .ok (.imul, 1) := by decide +kernel
theorem dX4_tellMost_88 : decode cX4_tellMost 88 = .ok (.iload_n 2, 1) := by decide +kernel
theorem dX4_tellMost_89 : decode cX4_tellMost 89 = .ok (.if_icmp .le 31, 3) := by decide +kernel
theorem dX4_tellMost_92 : decode cX4_tellMost 92 = .ok (.aload_n 0, 1) := by decide +kernel
theorem dX4_tellMost_93 : decode cX4_tellMost 93 = .ok (.getfield 26, 3) := by decide +kernel
theorem dX4_tellMost_96 : decode cX4_tellMost 96 = .ok (.iload 6, 2) := by decide +kernel
theorem dX4_tellMost_98 : decode cX4_tellMost 98 = .ok (.iaload, 1) := by decide +kernel
theorem dX4_tellMost_99 : decode cX4_tellMost 99 = .ok (.iload 5, 2) := by decide +kernel
theorem dX4_tellMost_101 : decode cX4_tellMost 101 = .ok (.if_icmp .ne 13, 3) := by decide +kernel
theorem dX4_tellMost_104 : decode cX4_tellMost 104 = .ok (.iload 4, 2) := by decide +kernel
theorem dX4_tellMost_106 : decode cX4_tellMost 106 = .ok (.iload 5, 2) := by decide +kernel
theorem dX4_tellMost_108 : decode cX4_tellMost 108 = .ok (.isub, 1) := by decide +kernel
theorem dX4_tellMost_109 : decode cX4_tellMost 109 = .ok (.istore 4, 2) := by decide +kernel
theorem dX4_tellMost_111 : decode cX4_tellMost 111 = .ok (.iinc 3 1, 3) := by decide +kernel
theorem dX4_tellMost_114 : decode cX4_tellMost 114 = .ok (.iinc 6 1, 3) := by decide +kernel
theorem dX4_tellMost_117 : decode cX4_tellMost 117 = .ok (.goto (-45), 3) := by decide +kernel
theorem dX4_tellMost_120 : decode cX4_tellMost 120 = .ok (.iinc 5 (-1), 3) := by decide +kernel
theorem dX4_tellMost_123 : decode cX4_tellMost 123 = .ok (.goto (-59), 3) := by decide +kernel
theorem dX4_tellMost_126 : decode cX4_tellMost 126 = .ok (.aload_n 0, 1) := by decide +kernel
theorem dX4_tellMost_127 : decode cX4_tellMost 127 = .ok (.getfield 45, 3) := by decide +kernel
theorem dX4_tellMost_130 : decode cX4_tellMost 130 = .ok (.invokevirtual 109, 3) := by decide +kernel
theorem dX4_tellMost_133 : decode cX4_tellMost 133 = .ok (.aload_n 0, 1) := by decide +kernel
theorem dX4_tellMost_134 : decode cX4_tellMost 134 = .ok (.getfield 45, 3) := by decide +kernel
theorem dX4_tellMost_137 : decode cX4_tellMost 137 = .ok (.iload_n 1, 1) := by decide +kernel
theorem dX4_tellMost_138 : decode cX4_tellMost 138 = .ok (.i2l, 1) := by decide +kernel
theorem dX4_tellMost_139 : decode cX4_tellMost 139 = .ok (.invokevirtual 117, 3) := by decide +kernel
theorem dX4_tellMost_142 : decode cX4_tellMost 142 = .ok (.aload_n 0, 1) := by decide +kernel
theorem dX4_tellMost_143 : decode cX4_tellMost 143 = .ok (.getfield 45, 3) := by decide +kernel
theorem dX4_tellMost_146 : decode cX4_tellMost 146 = .ok (.iload_n 2, 1) := by decide +kernel
theorem dX4_tellMost_147 : decode cX4_tellMost 147 = .ok (.i2l, 1) := by decide +kernel
theorem dX4_tellMost_148 : decode cX4_tellMost 148 = .ok (.invokevirtual 117, 3) := by decide +kernel
theorem dX4_tellMost_151 : decode cX4_tellMost 151 = .ok (.iload_n 3, 1) := by decide +kernel
theorem dX4_tellMost_152 : decode cX4_tellMost 152 = .ok (.ireturn, 1) := by decide +kernel
theorem dX5_init_0 : decode cX5_init 0 = .ok (.aload_n 0, 1) := by decide +kernel
theorem dX5_init_1 : decode cX5_init 1 = .ok (.invokespecial 1, 3) := by decide +kernel
theorem dX5_init_4 : decode cX5_init 4 = .ok (.return_, 1) := by decide +kernel
theorem dX5_told_0 : decode cX5_told 0 = .ok (.iload_n 1, 1) := by decide +kernel
theorem dX5_told_1 : decode cX5_told 1 = .ok (.tableswitch 103 0 7 #[47, 52, 57, 62, 67, 72, 77, 90], 47) := by decide +kernel
theorem dX5_told_48 : decode cX5_told 48 = .ok (.aload_n 0, 1) := by decide +kernel
theorem dX5_told_49 : decode cX5_told 49 = .ok (.getfield 7, 3) := by decide +kernel
theorem dX5_told_52 : decode cX5_told 52 = .ok (.ireturn, 1) := by decide +kernel
theorem dX5_told_53 : decode cX5_told 53 = .ok (.aload_n 0, 1) := by decide +kernel
theorem dX5_told_54 : decode cX5_told 54 = .ok (.getfield 13, 3) := by decide +kernel
theorem dX5_told_57 : decode cX5_told 57 = .ok (.ireturn, 1) := by decide +kernel
theorem dX5_told_58 : decode cX5_told 58 = .ok (.aload_n 0, 1) := by decide +kernel
theorem dX5_told_59 : decode cX5_told 59 = .ok (.getfield 16, 3) := by decide +kernel
theorem dX5_told_62 : decode cX5_told 62 = .ok (.ireturn, 1) := by decide +kernel
theorem dX5_told_63 : decode cX5_told 63 = .ok (.aload_n 0, 1) := by decide +kernel
theorem dX5_told_64 : decode cX5_told 64 = .ok (.getfield 19, 3) := by decide +kernel
theorem dX5_told_67 : decode cX5_told 67 = .ok (.ireturn, 1) := by decide +kernel
theorem dX5_told_68 : decode cX5_told 68 = .ok (.aload_n 0, 1) := by decide +kernel
theorem dX5_told_69 : decode cX5_told 69 = .ok (.getfield 22, 3) := by decide +kernel
theorem dX5_told_72 : decode cX5_told 72 = .ok (.ireturn, 1) := by decide +kernel
theorem dX5_told_73 : decode cX5_told 73 = .ok (.aload_n 0, 1) := by decide +kernel
theorem dX5_told_74 : decode cX5_told 74 = .ok (.getfield 25, 3) := by decide +kernel
theorem dX5_told_77 : decode cX5_told 77 = .ok (.ireturn, 1) := by decide +kernel
theorem dX5_told_78 : decode cX5_told 78 = .ok (.aload_n 0, 1) := by decide +kernel
theorem dX5_told_79 : decode cX5_told 79 = .ok (.getfield 28, 3) := by decide +kernel
theorem dX5_told_82 : decode cX5_told 82 = .ok (.ifCond .eq 7, 3) := by decide +kernel
theorem dX5_told_85 : decode cX5_told 85 = .ok (.iconst 1, 1) := by decide +kernel
theorem dX5_told_86 : decode cX5_told 86 = .ok (.goto 4, 3) := by decide +kernel
theorem dX5_told_89 : decode cX5_told 89 = .ok (.iconst 0, 1) := by decide +kernel
theorem dX5_told_90 : decode cX5_told 90 = .ok (.ireturn, 1) := by decide +kernel
theorem dX5_told_91 : decode cX5_told 91 = .ok (.aload_n 0, 1) := by decide +kernel
theorem dX5_told_92 : decode cX5_told 92 = .ok (.getfield 32, 3) := by decide +kernel
theorem dX5_told_95 : decode cX5_told 95 = .ok (.ifCond .eq 7, 3) := by decide +kernel
theorem dX5_told_98 : decode cX5_told 98 = .ok (.iconst 1, 1) := by decide +kernel
theorem dX5_told_99 : decode cX5_told 99 = .ok (.goto 4, 3) := by decide +kernel
theorem dX5_told_102 : decode cX5_told 102 = .ok (.iconst 0, 1) := by decide +kernel
theorem dX5_told_103 : decode cX5_told 103 = .ok (.ireturn, 1) := by decide +kernel
theorem dX5_told_104 : decode cX5_told 104 = .ok (.aload_n 0, 1) := by decide +kernel
theorem dX5_told_105 : decode cX5_told 105 = .ok (.getfield 35, 3) := by decide +kernel
theorem dX5_told_108 : decode cX5_told 108 = .ok (.ireturn, 1) := by decide +kernel
theorem dX5_becomeRead_0 : decode cX5_becomeRead 0 = .ok (.aload_n 0, 1) := by decide +kernel
theorem dX5_becomeRead_1 : decode cX5_becomeRead 1 = .ok (.iconst 1, 1) := by decide +kernel
theorem dX5_becomeRead_2 : decode cX5_becomeRead 2 = .ok (.putfield 28, 3) := by decide +kernel
theorem dX5_becomeRead_5 : decode cX5_becomeRead 5 = .ok (.aload_n 0, 1) := by decide +kernel
theorem dX5_becomeRead_6 : decode cX5_becomeRead 6 = .ok (.iload_n 1, 1) := by decide +kernel
theorem dX5_becomeRead_7 : decode cX5_becomeRead 7 = .ok (.putfield 32, 3) := by decide +kernel
theorem dX5_becomeRead_10 : decode cX5_becomeRead 10 = .ok (.return_, 1) := by decide +kernel
theorem dX5_state_0 : decode cX5_state 0 = .ok (.aload_n 0, 1) := by decide +kernel
theorem dX5_state_1 : decode cX5_state 1 = .ok (.getfield 28, 3) := by decide +kernel
theorem dX5_state_4 : decode cX5_state 4 = .ok (.ifCond .eq 7, 3) := by decide +kernel
theorem dX5_state_7 : decode cX5_state 7 = .ok (.iconst 1, 1) := by decide +kernel
theorem dX5_state_8 : decode cX5_state 8 = .ok (.goto 4, 3) := by decide +kernel
theorem dX5_state_11 : decode cX5_state 11 = .ok (.iconst 0, 1) := by decide +kernel
theorem dX5_state_12 : decode cX5_state 12 = .ok (.aload_n 0, 1) := by decide +kernel
theorem dX5_state_13 : decode cX5_state 13 = .ok (.getfield 32, 3) := by decide +kernel
theorem dX5_state_16 : decode cX5_state 16 = .ok (.ifCond .eq 7, 3) := by decide +kernel
theorem dX5_state_19 : decode cX5_state 19 = .ok (.iconst 2, 1) := by decide +kernel
theorem dX5_state_20 : decode cX5_state 20 = .ok (.goto 4, 3) := by decide +kernel
theorem dX5_state_23 : decode cX5_state 23 = .ok (.iconst 0, 1) := by decide +kernel
theorem dX5_state_24 : decode cX5_state 24 = .ok (.iadd, 1) := by decide +kernel
theorem dX5_state_25 : decode cX5_state 25 = .ok (.iconst 4, 1) := by decide +kernel
theorem dX5_state_26 : decode cX5_state 26 = .ok (.aload_n 0, 1) := by decide +kernel
theorem dX5_state_27 : decode cX5_state 27 = .ok (.getfield 35, 3) := by decide +kernel
theorem dX5_state_30 : decode cX5_state 30 = .ok (.imul, 1) := by decide +kernel
theorem dX5_state_31 : decode cX5_state 31 = .ok (.iadd, 1) := by decide +kernel
theorem dX5_state_32 : decode cX5_state 32 = .ok (.ireturn, 1) := by decide +kernel
theorem dX5_becomeState_0 : decode cX5_becomeState 0 = .ok (.aload_n 0, 1) := by decide +kernel
theorem dX5_becomeState_1 : decode cX5_becomeState 1 = .ok (.iload_n 1, 1) := by decide +kernel
theorem dX5_becomeState_2 : decode cX5_becomeState 2 = .ok (.iconst 1, 1) := by decide +kernel
theorem dX5_becomeState_3 : decode cX5_becomeState 3 = .ok (.iand, 1) := by decide +kernel
theorem dX5_becomeState_4 : decode cX5_becomeState 4 = .ok (.ifCond .eq 7, 3) := by decide +kernel
theorem dX5_becomeState_7 : decode cX5_becomeState 7 = .ok (.iconst 1, 1) := by decide +kernel
theorem dX5_becomeState_8 : decode cX5_becomeState 8 = .ok (.goto 4, 3) := by decide +kernel
theorem dX5_becomeState_11 : decode cX5_becomeState 11 = .ok (.iconst 0, 1) := by decide +kernel
theorem dX5_becomeState_12 : decode cX5_becomeState 12 = .ok (.putfield 28, 3) := by decide +kernel
theorem dX5_becomeState_15 : decode cX5_becomeState 15 = .ok (.aload_n 0, 1) := by decide +kernel
theorem dX5_becomeState_16 : decode cX5_becomeState 16 = .ok (.iload_n 1, 1) := by decide +kernel
theorem dX5_becomeState_17 : decode cX5_becomeState 17 = .ok (.iconst 2, 1) := by decide +kernel
theorem dX5_becomeState_18 : decode cX5_becomeState 18 = .ok (.iand, 1) := by decide +kernel
theorem dX5_becomeState_19 : decode cX5_becomeState 19 = .ok (.ifCond .eq 7, 3) := by decide +kernel
theorem dX5_becomeState_22 : decode cX5_becomeState 22 = .ok (.iconst 1, 1) := by decide +kernel
theorem dX5_becomeState_23 : decode cX5_becomeState 23 = .ok (.goto 4, 3) := by decide +kernel
theorem dX5_becomeState_26 : decode cX5_becomeState 26 = .ok (.iconst 0, 1) := by decide +kernel
theorem dX5_becomeState_27 : decode cX5_becomeState 27 = .ok (.putfield 32, 3) := by decide +kernel
theorem dX5_becomeState_30 : decode cX5_becomeState 30 = .ok (.aload_n 0, 1) := by decide +kernel
theorem dX5_becomeState_31 : decode cX5_becomeState 31 = .ok (.iload_n 1, 1) := by decide +kernel
theorem dX5_becomeState_32 : decode cX5_becomeState 32 = .ok (.iconst 2, 1) := by decide +kernel
theorem dX5_becomeState_33 : decode cX5_becomeState 33 = .ok (.ishr, 1) := by decide +kernel
theorem dX5_becomeState_34 : decode cX5_becomeState 34 = .ok (.putfield 35, 3) := by decide +kernel
theorem dX5_becomeState_37 : decode cX5_becomeState 37 = .ok (.return_, 1) := by decide +kernel
theorem dX6_init_0 : decode cX6_init 0 = .ok (.aload_n 0, 1) := by decide +kernel
theorem dX6_init_1 : decode cX6_init 1 = .ok (.invokespecial 3, 3) := by decide +kernel
theorem dX6_init_4 : decode cX6_init 4 = .ok (.aload_n 0, 1) := by decide +kernel
theorem dX6_init_5 : decode cX6_init 5 = .ok (.bipush 40, 2) := by decide +kernel
theorem dX6_init_7 : decode cX6_init 7 = .ok (.newarray .int, 2) := by decide +kernel
theorem dX6_init_9 : decode cX6_init 9 = .ok (.putfield 11, 3) := by decide +kernel
theorem dX6_init_12 : decode cX6_init 12 = .ok (.aload_n 0, 1) := by decide +kernel
theorem dX6_init_13 : decode cX6_init 13 = .ok (.bipush 40, 2) := by decide +kernel
theorem dX6_init_15 : decode cX6_init 15 = .ok (.newarray .int, 2) := by decide +kernel
theorem dX6_init_17 : decode cX6_init 17 = .ok (.putfield 15, 3) := by decide +kernel
theorem dX6_init_20 : decode cX6_init 20 = .ok (.aload_n 0, 1) := by decide +kernel
theorem dX6_init_21 : decode cX6_init 21 = .ok (.bipush 40, 2) := by decide +kernel
theorem dX6_init_23 : decode cX6_init 23 = .ok (.newarray .int, 2) := by decide +kernel
theorem dX6_init_25 : decode cX6_init 25 = .ok (.putfield 18, 3) := by decide +kernel
theorem dX6_init_28 : decode cX6_init 28 = .ok (.aload_n 0, 1) := by decide +kernel
theorem dX6_init_29 : decode cX6_init 29 = .ok (.bipush 6, 2) := by decide +kernel
theorem dX6_init_31 : decode cX6_init 31 = .ok (.bipush 96, 2) := by decide +kernel
theorem dX6_init_33 : decode cX6_init 33 = .ok (.multianewarray 21 2, 4) := by decide +kernel
theorem dX6_init_37 : decode cX6_init 37 = .ok (.putfield 23, 3) := by decide +kernel
theorem dX6_init_40 : decode cX6_init 40 = .ok (.aload_n 0, 1) := by decide +kernel
theorem dX6_init_41 : decode cX6_init 41 = .ok (.bipush 6, 2) := by decide +kernel
theorem dX6_init_43 : decode cX6_init 43 = .ok (.newarray .int, 2) := by decide +kernel
theorem dX6_init_45 : decode cX6_init 45 = .ok (.putfield 26, 3) := by decide +kernel
theorem dX6_init_48 : decode cX6_init 48 = .ok (.aload_n 0, 1) := by decide +kernel
theorem dX6_init_49 : decode cX6_init 49 = .ok (.aload_n 1, 1) := by decide +kernel
theorem dX6_init_50 : decode cX6_init 50 = .ok (.putfield 29, 3) := by decide +kernel
theorem dX6_init_53 : decode cX6_init 53 = .ok (.aload_n 0, 1) := by decide +kernel
theorem dX6_init_54 : decode cX6_init 54 = .ok (.aload_n 2, 1) := by decide +kernel
theorem dX6_init_55 : decode cX6_init 55 = .ok (.putfield 33, 3) := by decide +kernel
theorem dX6_init_58 : decode cX6_init 58 = .ok (.return_, 1) := by decide +kernel
theorem dX6_noteAsking_0 : decode cX6_noteAsking 0 = .ok (.aload_n 0, 1) := by decide +kernel
theorem dX6_noteAsking_1 : decode cX6_noteAsking 1 = .ok (.getfield 29, 3) := by decide +kernel
theorem dX6_noteAsking_4 : decode cX6_noteAsking 4 = .ok (.iload_n 1, 1) := by decide +kernel
theorem dX6_noteAsking_5 : decode cX6_noteAsking 5 = .ok (.invokevirtual 37, 3) := by decide +kernel
theorem dX6_noteAsking_8 : decode cX6_noteAsking 8 = .ok (.ifCond .eq 32, 3) := by decide +kernel
theorem dX6_noteAsking_11 : decode cX6_noteAsking 11 = .ok (.aload_n 0, 1) := by decide +kernel
theorem dX6_noteAsking_12 : decode cX6_noteAsking 12 = .ok (.getfield 29, 3) := by decide +kernel
theorem dX6_noteAsking_15 : decode cX6_noteAsking 15 = .ok (.iload_n 2, 1) := by decide +kernel
theorem dX6_noteAsking_16 : decode cX6_noteAsking 16 = .ok (.invokevirtual 37, 3) := by decide +kernel
theorem dX6_noteAsking_19 : decode cX6_noteAsking 19 = .ok (.ifCond .eq 21, 3) := by decide +kernel
theorem dX6_noteAsking_22 : decode cX6_noteAsking 22 = .ok (.iload_n 1, 1) := by decide +kernel
theorem dX6_noteAsking_23 : decode cX6_noteAsking 23 = .ok (.iload_n 2, 1) := by decide +kernel
theorem dX6_noteAsking_24 : decode cX6_noteAsking 24 = .ok (.if_icmp .eq 16, 3) := by decide +kernel
theorem dX6_noteAsking_27 : decode cX6_noteAsking 27 = .ok (.iload_n 3, 1) := by decide +kernel
theorem dX6_noteAsking_28 : decode cX6_noteAsking 28 = .ok (.iconst 0, 1) := by decide +kernel
theorem dX6_noteAsking_29 : decode cX6_noteAsking 29 = .ok (.iconst 2, 1) := by decide +kernel
theorem dX6_noteAsking_30 : decode cX6_noteAsking 30 = .ok (.invokestatic 43, 3) := by decide +kernel
theorem dX6_noteAsking_33 : decode cX6_noteAsking 33 = .ok (.ifCond .eq 7, 3) := by decide +kernel
theorem dX6_noteAsking_36 : decode cX6_noteAsking 36 = .ok (.iconst 1, 1) := by decide +kernel
theorem dX6_noteAsking_37 : decode cX6_noteAsking 37 = .ok (.goto 4, 3) := by decide +kernel
theorem dX6_noteAsking_40 : decode cX6_noteAsking 40 = .ok (.iconst 0, 1) := by decide +kernel
theorem dX6_noteAsking_41 : decode cX6_noteAsking 41 = .ok (.istore 4, 2) := by decide +kernel
theorem dX6_noteAsking_43 : decode cX6_noteAsking 43 = .ok (.iload 4, 2) := by decide +kernel
theorem dX6_noteAsking_45 : decode cX6_noteAsking 45 = .ok (.ifCond .eq 12, 3) := by decide +kernel
theorem dX6_noteAsking_48 : decode cX6_noteAsking 48 = .ok (.aload_n 0, 1) := by decide +kernel
theorem dX6_noteAsking_49 : decode cX6_noteAsking 49 = .ok (.getfield 47, 3) := by decide +kernel
theorem dX6_noteAsking_52 : decode cX6_noteAsking 52 = .ok (.bipush 40, 2) := by decide +kernel
theorem dX6_noteAsking_54 : decode cX6_noteAsking 54 = .ok (.if_icmp .ne 5, 3) := by decide +kernel
theorem dX6_noteAsking_57 : decode cX6_noteAsking 57 = .ok (.iconst (-1), 1) := by decide +kernel
theorem dX6_noteAsking_58 : decode cX6_noteAsking 58 = .ok (.ireturn, 1) := by decide +kernel
theorem dX6_noteAsking_59 : decode cX6_noteAsking 59 = .ok (.aload_n 0, 1) := by decide +kernel
theorem dX6_noteAsking_60 : decode cX6_noteAsking 60 = .ok (.getfield 11, 3) := by decide +kernel
theorem dX6_noteAsking_63 : decode cX6_noteAsking 63 = .ok (.aload_n 0, 1) := by decide +kernel
theorem dX6_noteAsking_64 : decode cX6_noteAsking 64 = .ok (.getfield 47, 3) := by decide +kernel
theorem dX6_noteAsking_67 : decode cX6_noteAsking 67 = .ok (.iload_n 1, 1) := by decide +kernel
theorem dX6_noteAsking_68 : decode cX6_noteAsking 68 = .ok (.iastore, 1) := by decide +kernel
theorem dX6_noteAsking_69 : decode cX6_noteAsking 69 = .ok (.aload_n 0, 1) := by decide +kernel
theorem dX6_noteAsking_70 : decode cX6_noteAsking 70 = .ok (.getfield 15, 3) := by decide +kernel
theorem dX6_noteAsking_73 : decode cX6_noteAsking 73 = .ok (.aload_n 0, 1) := by decide +kernel
theorem dX6_noteAsking_74 : decode cX6_noteAsking 74 = .ok (.getfield 47, 3) := by decide +kernel
theorem dX6_noteAsking_77 : decode cX6_noteAsking 77 = .ok (.iload_n 2, 1) := by decide +kernel
theorem dX6_noteAsking_78 : decode cX6_noteAsking 78 = .ok (.iastore, 1) := by decide +kernel
theorem dX6_noteAsking_79 : decode cX6_noteAsking 79 = .ok (.aload_n 0, 1) := by decide +kernel
theorem dX6_noteAsking_80 : decode cX6_noteAsking 80 = .ok (.getfield 18, 3) := by decide +kernel
theorem dX6_noteAsking_83 : decode cX6_noteAsking 83 = .ok (.aload_n 0, 1) := by decide +kernel
theorem dX6_noteAsking_84 : decode cX6_noteAsking 84 = .ok (.getfield 47, 3) := by decide +kernel
theorem dX6_noteAsking_87 : decode cX6_noteAsking 87 = .ok (.iload_n 3, 1) := by decide +kernel
theorem dX6_noteAsking_88 : decode cX6_noteAsking 88 = .ok (.iastore, 1) := by decide +kernel
theorem dX6_noteAsking_89 : decode cX6_noteAsking 89 = .ok (.aload_n 0, 1) := by decide +kernel
theorem dX6_noteAsking_90 : decode cX6_noteAsking 90 = .ok (.dup, 1) := by decide +kernel
theorem dX6_noteAsking_91 : decode cX6_noteAsking 91 = .ok (.getfield 47, 3) := by decide +kernel
theorem dX6_noteAsking_94 : decode cX6_noteAsking 94 = .ok (.iconst 1, 1) := by decide +kernel
theorem dX6_noteAsking_95 : decode cX6_noteAsking 95 = .ok (.iadd, 1) := by decide +kernel
theorem dX6_noteAsking_96 : decode cX6_noteAsking 96 = .ok (.putfield 47, 3) := by decide +kernel
theorem dX6_noteAsking_99 : decode cX6_noteAsking 99 = .ok (.aload_n 0, 1) := by decide +kernel
theorem dX6_noteAsking_100 : decode cX6_noteAsking 100 = .ok (.getfield 47, 3) := by decide +kernel
theorem dX6_noteAsking_103 : decode cX6_noteAsking 103 = .ok (.ireturn, 1) := by decide +kernel
theorem dX6_weigh_0 : decode cX6_weigh 0 = .ok (.iconst 0, 1) := by decide +kernel
theorem dX6_weigh_1 : decode cX6_weigh 1 = .ok (.istore_n 1, 1) := by decide +kernel
theorem dX6_weigh_2 : decode cX6_weigh 2 = .ok (.iload_n 1, 1) := by decide +kernel
theorem dX6_weigh_3 : decode cX6_weigh 3 = .ok (.aload_n 0, 1) := by decide +kernel
theorem dX6_weigh_4 : decode cX6_weigh 4 = .ok (.getfield 29, 3) := by decide +kernel
theorem dX6_weigh_7 : decode cX6_weigh 7 = .ok (.getfield 51, 3) := by decide +kernel
theorem dX6_weigh_10 : decode cX6_weigh 10 = .ok (.if_icmp .ge 81, 3) := by decide +kernel
theorem dX6_weigh_13 : decode cX6_weigh 13 = .ok (.aload_n 0, 1) := by decide +kernel
theorem dX6_weigh_14 : decode cX6_weigh 14 = .ok (.getfield 29, 3) := by decide +kernel
theorem dX6_weigh_17 : decode cX6_weigh 17 = .ok (.aload_n 0, 1) := by decide +kernel
theorem dX6_weigh_18 : decode cX6_weigh 18 = .ok (.getfield 29, 3) := by decide +kernel
theorem dX6_weigh_21 : decode cX6_weigh 21 = .ok (.getfield 54, 3) := by decide +kernel
theorem dX6_weigh_24 : decode cX6_weigh 24 = .ok (.iload_n 1, 1) := by decide +kernel
theorem dX6_weigh_25 : decode cX6_weigh 25 = .ok (.aaload, 1) := by decide +kernel
theorem dX6_weigh_26 : decode cX6_weigh 26 = .ok (.invokevirtual 58, 3) := by decide +kernel
theorem dX6_weigh_29 : decode cX6_weigh 29 = .ok (.iconst 0, 1) := by decide +kernel
theorem dX6_weigh_30 : decode cX6_weigh 30 = .ok (.istore_n 2, 1) := by decide +kernel
theorem dX6_weigh_31 : decode cX6_weigh 31 = .ok (.iload_n 2, 1) := by decide +kernel
theorem dX6_weigh_32 : decode cX6_weigh 32 = .ok (.bipush 6, 2) := by decide +kernel
theorem dX6_weigh_34 : decode cX6_weigh 34 = .ok (.if_icmp .ge 51, 3) := by decide +kernel
theorem dX6_weigh_37 : decode cX6_weigh 37 = .ok (.aload_n 0, 1) := by decide +kernel
theorem dX6_weigh_38 : decode cX6_weigh 38 = .ok (.getfield 23, 3) := by decide +kernel
theorem dX6_weigh_41 : decode cX6_weigh 41 = .ok (.iload_n 2, 1) := by decide +kernel
theorem dX6_weigh_42 : decode cX6_weigh 42 = .ok (.aaload, 1) := by decide +kernel
theorem dX6_weigh_43 : decode cX6_weigh 43 = .ok (.iload_n 1, 1) := by decide +kernel
theorem dX6_weigh_44 : decode cX6_weigh 44 = .ok (.aload_n 0, 1) := by decide +kernel
theorem dX6_weigh_45 : decode cX6_weigh 45 = .ok (.getfield 29, 3) := by decide +kernel
theorem dX6_weigh_48 : decode cX6_weigh 48 = .ok (.iload_n 2, 1) := by decide +kernel
theorem dX6_weigh_49 : decode cX6_weigh 49 = .ok (.invokevirtual 62, 3) := by decide +kernel
theorem dX6_weigh_52 : decode cX6_weigh 52 = .ok (.ifCond .eq 25, 3) := by decide +kernel
theorem dX6_weigh_55 : decode cX6_weigh 55 = .ok (.aload_n 0, 1) := by decide +kernel
theorem dX6_weigh_56 : decode cX6_weigh 56 = .ok (.getfield 29, 3) := by decide +kernel
theorem dX6_weigh_59 : decode cX6_weigh 59 = .ok (.getfield 65, 3) := by decide +kernel
theorem dX6_weigh_62 : decode cX6_weigh 62 = .ok (.iload_n 2, 1) := by decide +kernel
theorem dX6_weigh_63 : decode cX6_weigh 63 = .ok (.aaload, 1) := by decide +kernel
theorem dX6_weigh_64 : decode cX6_weigh 64 = .ok (.aload_n 0, 1) := by decide +kernel
theorem dX6_weigh_65 : decode cX6_weigh 65 = .ok (.getfield 29, 3) := by decide +kernel
theorem dX6_weigh_68 : decode cX6_weigh 68 = .ok (.getfield 69, 3) := by decide +kernel
theorem dX6_weigh_71 : decode cX6_weigh 71 = .ok (.invokevirtual 72, 3) := by decide +kernel
theorem dX6_weigh_74 : decode cX6_weigh 74 = .ok (.goto 4, 3) := by decide +kernel
theorem dX6_weigh_77 : decode cX6_weigh 77 = .ok (.iconst 0, 1) := by decide +kernel
theorem dX6_weigh_78 : decode cX6_weigh 78 = .ok (.iastore, 1) := by decide +kernel
theorem dX6_weigh_79 : decode cX6_weigh 79 = .ok (.iinc 2 1, 3) := by decide +kernel
theorem dX6_weigh_82 : decode cX6_weigh 82 = .ok (.goto (-51), 3) := by decide +kernel
theorem dX6_weigh_85 : decode cX6_weigh 85 = .ok (.iinc 1 1, 3) := by decide +kernel
theorem dX6_weigh_88 : decode cX6_weigh 88 = .ok (.goto (-86), 3) := by decide +kernel
theorem dX6_weigh_91 : decode cX6_weigh 91 = .ok (.iconst 0, 1) := by decide +kernel
theorem dX6_weigh_92 : decode cX6_weigh 92 = .ok (.istore_n 1, 1) := by decide +kernel
theorem dX6_weigh_93 : decode cX6_weigh 93 = .ok (.iload_n 1, 1) := by decide +kernel
theorem dX6_weigh_94 : decode cX6_weigh 94 = .ok (.bipush 6, 2) := by decide +kernel
theorem dX6_weigh_96 : decode cX6_weigh 96 = .ok (.if_icmp .ge 72, 3) := by decide +kernel
theorem dX6_weigh_99 : decode cX6_weigh 99 = .ok (.aload_n 0, 1) := by decide +kernel
theorem dX6_weigh_100 : decode cX6_weigh 100 = .ok (.getfield 26, 3) := by decide +kernel
theorem dX6_weigh_103 : decode cX6_weigh 103 = .ok (.iload_n 1, 1) := by decide +kernel
theorem dX6_weigh_104 : decode cX6_weigh 104 = .ok (.iconst 0, 1) := by decide +kernel
theorem dX6_weigh_105 : decode cX6_weigh 105 = .ok (.iastore, 1) := by decide +kernel
theorem dX6_weigh_106 : decode cX6_weigh 106 = .ok (.iconst 0, 1) := by decide +kernel
theorem dX6_weigh_107 : decode cX6_weigh 107 = .ok (.istore_n 2, 1) := by decide +kernel
theorem dX6_weigh_108 : decode cX6_weigh 108 = .ok (.iload_n 2, 1) := by decide +kernel
theorem dX6_weigh_109 : decode cX6_weigh 109 = .ok (.aload_n 0, 1) := by decide +kernel
theorem dX6_weigh_110 : decode cX6_weigh 110 = .ok (.getfield 47, 3) := by decide +kernel
theorem dX6_weigh_113 : decode cX6_weigh 113 = .ok (.if_icmp .ge 49, 3) := by decide +kernel
theorem dX6_weigh_116 : decode cX6_weigh 116 = .ok (.aload_n 0, 1) := by decide +kernel
theorem dX6_weigh_117 : decode cX6_weigh 117 = .ok (.getfield 26, 3) := by decide +kernel
theorem dX6_weigh_120 : decode cX6_weigh 120 = .ok (.iload_n 1, 1) := by decide +kernel
theorem dX6_weigh_121 : decode cX6_weigh 121 = .ok (.dup2, 1) := by decide +kernel
theorem dX6_weigh_122 : decode cX6_weigh 122 = .ok (.iaload, 1) := by decide +kernel
theorem dX6_weigh_123 : decode cX6_weigh 123 = .ok (.aload_n 0, 1) := by decide +kernel
theorem dX6_weigh_124 : decode cX6_weigh 124 = .ok (.iload_n 1, 1) := by decide +kernel
theorem dX6_weigh_125 : decode cX6_weigh 125 = .ok (.aload_n 0, 1) := by decide +kernel
theorem dX6_weigh_126 : decode cX6_weigh 126 = .ok (.getfield 11, 3) := by decide +kernel
theorem dX6_weigh_129 : decode cX6_weigh 129 = .ok (.iload_n 2, 1) := by decide +kernel
theorem dX6_weigh_130 : decode cX6_weigh 130 = .ok (.iaload, 1) := by decide +kernel
theorem dX6_weigh_131 : decode cX6_weigh 131 = .ok (.aload_n 0, 1) := by decide +kernel
theorem dX6_weigh_132 : decode cX6_weigh 132 = .ok (.getfield 15, 3) := by decide +kernel
theorem dX6_weigh_135 : decode cX6_weigh 135 = .ok (.iload_n 2, 1) := by decide +kernel
theorem dX6_weigh_136 : decode cX6_weigh 136 = .ok (.iaload, 1) := by decide +kernel
theorem dX6_weigh_137 : decode cX6_weigh 137 = .ok (.aload_n 0, 1) := by decide +kernel
theorem dX6_weigh_138 : decode cX6_weigh 138 = .ok (.getfield 18, 3) := by decide +kernel
theorem dX6_weigh_141 : decode cX6_weigh 141 = .ok (.iload_n 2, 1) := by decide +kernel
theorem dX6_weigh_142 : decode cX6_weigh 142 = .ok (.iaload, 1) := by decide +kernel
theorem dX6_weigh_143 : decode cX6_weigh 143 = .ok (.invokevirtual 78, 3) := by decide +kernel
theorem dX6_weigh_146 : decode cX6_weigh 146 = .ok (.ifCond .eq 7, 3) := by decide +kernel
theorem dX6_weigh_149 : decode cX6_weigh 149 = .ok (.iconst 1, 1) := by decide +kernel
theorem dX6_weigh_150 : decode cX6_weigh 150 = .ok (.goto 4, 3) := by decide +kernel
theorem dX6_weigh_153 : decode cX6_weigh 153 = .ok (.iconst 0, 1) := by decide +kernel
theorem dX6_weigh_154 : decode cX6_weigh 154 = .ok (.iadd, 1) := by decide +kernel
theorem dX6_weigh_155 : decode cX6_weigh 155 = .ok (.iastore, 1) := by decide +kernel
theorem dX6_weigh_156 : decode cX6_weigh 156 = .ok (.iinc 2 1, 3) := by decide +kernel
theorem dX6_weigh_159 : decode cX6_weigh 159 = .ok (.goto (-51), 3) := by decide +kernel
theorem dX6_weigh_162 : decode cX6_weigh 162 = .ok (.iinc 1 1, 3) := by decide +kernel
theorem dX6_weigh_165 : decode cX6_weigh 165 = .ok (.goto (-72), 3) := by decide +kernel
theorem dX6_weigh_168 : decode cX6_weigh 168 = .ok (.return_, 1) := by decide +kernel
theorem dX6_goesAgainst_0 : decode cX6_goesAgainst 0 = .ok (.aload_n 0, 1) := by decide +kernel
theorem dX6_goesAgainst_1 : decode cX6_goesAgainst 1 = .ok (.getfield 23, 3) := by decide +kernel
theorem dX6_goesAgainst_4 : decode cX6_goesAgainst 4 = .ok (.iload_n 1, 1) := by decide +kernel
theorem dX6_goesAgainst_5 : decode cX6_goesAgainst 5 = .ok (.aaload, 1) := by decide +kernel
theorem dX6_goesAgainst_6 : decode cX6_goesAgainst 6 = .ok (.iload_n 2, 1) := by decide +kernel
theorem dX6_goesAgainst_7 : decode cX6_goesAgainst 7 = .ok (.iaload, 1) := by decide +kernel
theorem dX6_goesAgainst_8 : decode cX6_goesAgainst 8 = .ok (.aload_n 0, 1) := by decide +kernel
theorem dX6_goesAgainst_9 : decode cX6_goesAgainst 9 = .ok (.getfield 23, 3) := by decide +kernel
theorem dX6_goesAgainst_12 : decode cX6_goesAgainst 12 = .ok (.iload_n 1, 1) := by decide +kernel
theorem dX6_goesAgainst_13 : decode cX6_goesAgainst 13 = .ok (.aaload, 1) := by decide +kernel
theorem dX6_goesAgainst_14 : decode cX6_goesAgainst 14 = .ok (.iload_n 3, 1) := by decide +kernel
theorem dX6_goesAgainst_15 : decode cX6_goesAgainst 15 = .ok (.iaload, 1) := by decide +kernel
theorem dX6_goesAgainst_16 : decode cX6_goesAgainst 16 = .ok (.invokestatic 82, 3) := by decide +kernel
theorem dX6_goesAgainst_19 : decode cX6_goesAgainst 19 = .ok (.istore 5, 2) := by decide +kernel
theorem dX6_goesAgainst_21 : decode cX6_goesAgainst 21 = .ok (.iload 4, 2) := by decide +kernel
theorem dX6_goesAgainst_23 : decode cX6_goesAgainst 23 = .ok (.lookupswitch 47 #[(1, 25), (2, 36)], 25) := by decide +kernel
theorem dX6_goesAgainst_48 : decode cX6_goesAgainst 48 = .ok (.iload 5, 2) := by decide +kernel
theorem dX6_goesAgainst_50 : decode cX6_goesAgainst 50 = .ok (.ifCond .ge 7, 3) := by decide +kernel
theorem dX6_goesAgainst_53 : decode cX6_goesAgainst 53 = .ok (.iconst 1, 1) := by decide +kernel
theorem dX6_goesAgainst_54 : decode cX6_goesAgainst 54 = .ok (.goto 4, 3) := by decide +kernel
theorem dX6_goesAgainst_57 : decode cX6_goesAgainst 57 = .ok (.iconst 0, 1) := by decide +kernel
theorem dX6_goesAgainst_58 : decode cX6_goesAgainst 58 = .ok (.ireturn, 1) := by decide +kernel
theorem dX6_goesAgainst_59 : decode cX6_goesAgainst 59 = .ok (.iload 5, 2) := by decide +kernel
theorem dX6_goesAgainst_61 : decode cX6_goesAgainst 61 = .ok (.ifCond .le 7, 3) := by decide +kernel
theorem dX6_goesAgainst_64 : decode cX6_goesAgainst 64 = .ok (.iconst 1, 1) := by decide +kernel
theorem dX6_goesAgainst_65 : decode cX6_goesAgainst 65 = .ok (.goto 4, 3) := by decide +kernel
theorem dX6_goesAgainst_68 : decode cX6_goesAgainst 68 = .ok (.iconst 0, 1) := by decide +kernel
theorem dX6_goesAgainst_69 : decode cX6_goesAgainst 69 = .ok (.ireturn, 1) := by decide +kernel
theorem dX6_goesAgainst_70 : decode cX6_goesAgainst 70 = .ok (.iload 5, 2) := by decide +kernel
theorem dX6_goesAgainst_72 : decode cX6_goesAgainst 72 = .ok (.ifCond .eq 7, 3) := by decide +kernel
theorem dX6_goesAgainst_75 : decode cX6_goesAgainst 75 = .ok (.iconst 1, 1) := by decide +kernel
theorem dX6_goesAgainst_76 : decode cX6_goesAgainst 76 = .ok (.goto 4, 3) := by decide +kernel
theorem dX6_goesAgainst_79 : decode cX6_goesAgainst 79 = .ok (.iconst 0, 1) := by decide +kernel
theorem dX6_goesAgainst_80 : decode cX6_goesAgainst 80 = .ok (.ireturn, 1) := by decide +kernel
theorem dX6_weighedWithin_0 : decode cX6_weighedWithin 0 = .ok (.iconst 0, 1) := by decide +kernel
theorem dX6_weighedWithin_1 : decode cX6_weighedWithin 1 = .ok (.istore_n 2, 1) := by decide +kernel
theorem dX6_weighedWithin_2 : decode cX6_weighedWithin 2 = .ok (.iconst 0, 1) := by decide +kernel
theorem dX6_weighedWithin_3 : decode cX6_weighedWithin 3 = .ok (.istore_n 3, 1) := by decide +kernel
theorem dX6_weighedWithin_4 : decode cX6_weighedWithin 4 = .ok (.iload_n 3, 1) := by decide +kernel
theorem dX6_weighedWithin_5 : decode cX6_weighedWithin 5 = .ok (.bipush 6, 2) := by decide +kernel
theorem dX6_weighedWithin_7 : decode cX6_weighedWithin 7 = .ok (.if_icmp .ge 36, 3) := by decide +kernel
theorem dX6_weighedWithin_10 : decode cX6_weighedWithin 10 = .ok (.aload_n 0, 1) := by decide +kernel
theorem dX6_weighedWithin_11 : decode cX6_weighedWithin 11 = .ok (.getfield 29, 3) := by decide +kernel
theorem dX6_weighedWithin_14 : decode cX6_weighedWithin 14 = .ok (.iload_n 3, 1) := by decide +kernel
theorem dX6_weighedWithin_15 : decode cX6_weighedWithin 15 = .ok (.invokevirtual 62, 3) := by decide +kernel
theorem dX6_weighedWithin_18 : decode cX6_weighedWithin 18 = .ok (.ifCond .eq 19, 3) := by decide +kernel
theorem dX6_weighedWithin_21 : decode cX6_weighedWithin 21 = .ok (.aload_n 0, 1) := by decide +kernel
theorem dX6_weighedWithin_22 : decode cX6_weighedWithin 22 = .ok (.getfield 26, 3) := by decide +kernel
theorem dX6_weighedWithin_25 : decode cX6_weighedWithin 25 = .ok (.iload_n 3, 1) := by decide +kernel
theorem dX6_weighedWithin_26 : decode cX6_weighedWithin 26 = .ok (.iaload, 1) := by decide +kernel
theorem dX6_weighedWithin_27 : decode cX6_weighedWithin 27 = .ok (.iload_n 1, 1) := by decide +kernel
theorem dX6_weighedWithin_28 : decode cX6_weighedWithin 28 = .ok (.if_icmp .gt 9, 3) := by decide +kernel
theorem dX6_weighedWithin_31 : decode cX6_weighedWithin 31 = .ok (.iload_n 2, 1) := by decide +kernel
theorem dX6_weighedWithin_32 : decode cX6_weighedWithin 32 = .ok (.iconst 1, 1) := by decide +kernel
theorem dX6_weighedWithin_33 : decode cX6_weighedWithin 33 = .ok (.iload_n 3, 1) := by decide +kernel
theorem dX6_weighedWithin_34 : decode cX6_weighedWithin 34 = .ok (.ishl, 1) := by decide +kernel
theorem dX6_weighedWithin_35 : decode cX6_weighedWithin 35 = .ok (.ior, 1) := by decide +kernel
theorem dX6_weighedWithin_36 : decode cX6_weighedWithin 36 = .ok (.istore_n 2, 1) := by decide +kernel
theorem dX6_weighedWithin_37 : decode cX6_weighedWithin 37 = .ok (.iinc 3 1, 3) := by decide +kernel
theorem dX6_weighedWithin_40 : decode cX6_weighedWithin 40 = .ok (.goto (-36), 3) := by decide +kernel
theorem dX6_weighedWithin_43 : decode cX6_weighedWithin 43 = .ok (.iload_n 2, 1) := by decide +kernel
theorem dX6_weighedWithin_44 : decode cX6_weighedWithin 44 = .ok (.ireturn, 1) := by decide +kernel
theorem dX6_tellPairs_0 : decode cX6_tellPairs 0 = .ok (.aload_n 0, 1) := by decide +kernel
theorem dX6_tellPairs_1 : decode cX6_tellPairs 1 = .ok (.invokevirtual 88, 3) := by decide +kernel
theorem dX6_tellPairs_4 : decode cX6_tellPairs 4 = .ok (.aload_n 0, 1) := by decide +kernel
theorem dX6_tellPairs_5 : decode cX6_tellPairs 5 = .ok (.getfield 33, 3) := by decide +kernel
theorem dX6_tellPairs_8 : decode cX6_tellPairs 8 = .ok (.invokevirtual 91, 3) := by decide +kernel
theorem dX6_tellPairs_11 : decode cX6_tellPairs 11 = .ok (.iconst 0, 1) := by decide +kernel
theorem dX6_tellPairs_12 : decode cX6_tellPairs 12 = .ok (.istore_n 1, 1) := by decide +kernel
theorem dX6_tellPairs_13 : decode cX6_tellPairs 13 = .ok (.iload_n 1, 1) := by decide +kernel
theorem dX6_tellPairs_14 : decode cX6_tellPairs 14 = .ok (.bipush 6, 2) := by decide +kernel
theorem dX6_tellPairs_16 : decode cX6_tellPairs 16 = .ok (.if_icmp .ge 40, 3) := by decide +kernel
theorem dX6_tellPairs_19 : decode cX6_tellPairs 19 = .ok (.aload_n 0, 1) := by decide +kernel
theorem dX6_tellPairs_20 : decode cX6_tellPairs 20 = .ok (.getfield 33, 3) := by decide +kernel
theorem dX6_tellPairs_23 : decode cX6_tellPairs 23 = .ok (.aload_n 0, 1) := by decide +kernel
theorem dX6_tellPairs_24 : decode cX6_tellPairs 24 = .ok (.getfield 29, 3) := by decide +kernel
theorem dX6_tellPairs_27 : decode cX6_tellPairs 27 = .ok (.iload_n 1, 1) := by decide +kernel
theorem dX6_tellPairs_28 : decode cX6_tellPairs 28 = .ok (.invokevirtual 62, 3) := by decide +kernel
theorem dX6_tellPairs_31 : decode cX6_tellPairs 31 = .ok (.ifCond .eq 13, 3) := by decide +kernel
theorem dX6_tellPairs_34 : decode cX6_tellPairs 34 = .ok (.aload_n 0, 1) := by decide +kernel
theorem dX6_tellPairs_35 : decode cX6_tellPairs 35 = .ok (.getfield 26, 3) := by decide +kernel
theorem dX6_tellPairs_38 : decode cX6_tellPairs 38 = .ok (.iload_n 1, 1) := by decide +kernel
theorem dX6_tellPairs_39 : decode cX6_tellPairs 39 = .ok (.iaload, 1) := by decide +kernel
theorem dX6_tellPairs_40 : decode cX6_tellPairs 40 = .ok (.i2l, 1) := by decide +kernel
theorem dX6_tellPairs_41 : decode cX6_tellPairs 41 = .ok (.goto 6, 3) := by decide +kernel
theorem dX6_tellPairs_44 : decode cX6_tellPairs 44 = .ok (.ldc2_w 96, 3) := by decide +kernel
theorem dX6_tellPairs_47 : decode cX6_tellPairs 47 = .ok (.invokevirtual 98, 3) := by decide +kernel
theorem dX6_tellPairs_50 : decode cX6_tellPairs 50 = .ok (.iinc 1 1, 3) := by decide +kernel
theorem dX6_tellPairs_53 : decode cX6_tellPairs 53 = .ok (.goto (-40), 3) := by decide +kernel
theorem dX6_tellPairs_56 : decode cX6_tellPairs 56 = .ok (.aload_n 0, 1) := by decide +kernel
theorem dX6_tellPairs_57 : decode cX6_tellPairs 57 = .ok (.iconst 0, 1) := by decide +kernel
theorem dX6_tellPairs_58 : decode cX6_tellPairs 58 = .ok (.invokevirtual 102, 3) := by decide +kernel
theorem dX6_tellPairs_61 : decode cX6_tellPairs 61 = .ok (.ireturn, 1) := by decide +kernel
theorem dX6_lawsWithin_0 : decode cX6_lawsWithin 0 = .ok (.iload_n 1, 1) := by decide +kernel
theorem dX6_lawsWithin_1 : decode cX6_lawsWithin 1 = .ok (.iconst 0, 1) := by decide +kernel
theorem dX6_lawsWithin_2 : decode cX6_lawsWithin 2 = .ok (.bipush 40, 2) := by decide +kernel
theorem dX6_lawsWithin_4 : decode cX6_lawsWithin 4 = .ok (.invokestatic 43, 3) := by decide +kernel
theorem dX6_lawsWithin_7 : decode cX6_lawsWithin 7 = .ok (.ifCond .ne 5, 3) := by decide +kernel
theorem dX6_lawsWithin_10 : decode cX6_lawsWithin 10 = .ok (.iconst (-1), 1) := by decide +kernel
theorem dX6_lawsWithin_11 : decode cX6_lawsWithin 11 = .ok (.ireturn, 1) := by decide +kernel
theorem dX6_lawsWithin_12 : decode cX6_lawsWithin 12 = .ok (.aload_n 0, 1) := by decide +kernel
theorem dX6_lawsWithin_13 : decode cX6_lawsWithin 13 = .ok (.invokevirtual 88, 3) := by decide +kernel
theorem dX6_lawsWithin_16 : decode cX6_lawsWithin 16 = .ok (.aload_n 0, 1) := by decide +kernel
theorem dX6_lawsWithin_17 : decode cX6_lawsWithin 17 = .ok (.iload_n 1, 1) := by decide +kernel
theorem dX6_lawsWithin_18 : decode cX6_lawsWithin 18 = .ok (.invokevirtual 102, 3) := by decide +kernel
theorem dX6_lawsWithin_21 : decode cX6_lawsWithin 21 = .ok (.ireturn, 1) := by decide +kernel
theorem dX6_tellNext_0 : decode cX6_tellNext 0 = .ok (.aload_n 0, 1) := by decide +kernel
theorem dX6_tellNext_1 : decode cX6_tellNext 1 = .ok (.invokevirtual 88, 3) := by decide +kernel
theorem dX6_tellNext_4 : decode cX6_tellNext 4 = .ok (.aload_n 0, 1) := by decide +kernel
theorem dX6_tellNext_5 : decode cX6_tellNext 5 = .ok (.iconst 0, 1) := by decide +kernel
theorem dX6_tellNext_6 : decode cX6_tellNext 6 = .ok (.invokevirtual 102, 3) := by decide +kernel
theorem dX6_tellNext_9 : decode cX6_tellNext 9 = .ok (.istore_n 1, 1) := by decide +kernel
theorem dX6_tellNext_10 : decode cX6_tellNext 10 = .ok (.iload_n 1, 1) := by decide +kernel
theorem dX6_tellNext_11 : decode cX6_tellNext 11 = .ok (.invokestatic 106, 3) := by decide +kernel
theorem dX6_tellNext_14 : decode cX6_tellNext 14 = .ok (.iconst 2, 1) := by decide +kernel
theorem dX6_tellNext_15 : decode cX6_tellNext 15 = .ok (.if_icmp .lt 14, 3) := by decide +kernel
theorem dX6_tellNext_18 : decode cX6_tellNext 18 = .ok (.aload_n 0, 1) := by decide +kernel
theorem dX6_tellNext_19 : decode cX6_tellNext 19 = .ok (.getfield 29, 3) := by decide +kernel
theorem dX6_tellNext_22 : decode cX6_tellNext 22 = .ok (.getfield 51, 3) := by decide +kernel
theorem dX6_tellNext_25 : decode cX6_tellNext 25 = .ok (.iconst 2, 1) := by decide +kernel
theorem dX6_tellNext_26 : decode cX6_tellNext 26 = .ok (.if_icmp .ge 6, 3) := by decide +kernel
theorem dX6_tellNext_29 : decode cX6_tellNext 29 = .ok (.bipush (-2), 2) := by decide +kernel
theorem dX6_tellNext_31 : decode cX6_tellNext 31 = .ok (.ireturn, 1) := by decide +kernel
theorem dX6_tellNext_32 : decode cX6_tellNext 32 = .ok (.bipush 7, 2) := by decide +kernel
theorem dX6_tellNext_34 : decode cX6_tellNext 34 = .ok (.istore_n 2, 1) := by decide +kernel
theorem dX6_tellNext_35 : decode cX6_tellNext 35 = .ok (.iconst 0, 1) := by decide +kernel
theorem dX6_tellNext_36 : decode cX6_tellNext 36 = .ok (.istore_n 3, 1) := by decide +kernel
theorem dX6_tellNext_37 : decode cX6_tellNext 37 = .ok (.iconst 0, 1) := by decide +kernel
theorem dX6_tellNext_38 : decode cX6_tellNext 38 = .ok (.istore 4, 2) := by decide +kernel
theorem dX6_tellNext_40 : decode cX6_tellNext 40 = .ok (.iconst 0, 1) := by decide +kernel
theorem dX6_tellNext_41 : decode cX6_tellNext 41 = .ok (.istore 5, 2) := by decide +kernel
theorem dX6_tellNext_43 : decode cX6_tellNext 43 = .ok (.iload 5, 2) := by decide +kernel
theorem dX6_tellNext_45 : decode cX6_tellNext 45 = .ok (.aload_n 0, 1) := by decide +kernel
theorem dX6_tellNext_46 : decode cX6_tellNext 46 = .ok (.getfield 29, 3) := by decide +kernel
theorem dX6_tellNext_49 : decode cX6_tellNext 49 = .ok (.getfield 51, 3) := by decide +kernel
theorem dX6_tellNext_52 : decode cX6_tellNext 52 = .ok (.if_icmp .ge 60, 3) := by decide +kernel
theorem dX6_tellNext_55 : decode cX6_tellNext 55 = .ok (.iload 5, 2) := by decide +kernel
theorem dX6_tellNext_57 : decode cX6_tellNext 57 = .ok (.iconst 1, 1) := by decide +kernel
theorem dX6_tellNext_58 : decode cX6_tellNext 58 = .ok (.iadd, 1) := by decide +kernel
theorem dX6_tellNext_59 : decode cX6_tellNext 59 = .ok (.istore 6, 2) := by decide +kernel
theorem dX6_tellNext_61 : decode cX6_tellNext 61 = .ok (.iload 6, 2) := by decide +kernel
theorem dX6_tellNext_63 : decode cX6_tellNext 63 = .ok (.aload_n 0, 1) := by decide +kernel
theorem dX6_tellNext_64 : decode cX6_tellNext 64 = .ok (.getfield 29, 3) := by decide +kernel
theorem dX6_tellNext_67 : decode cX6_tellNext 67 = .ok (.getfield 51, 3) := by decide +kernel
theorem dX6_tellNext_70 : decode cX6_tellNext 70 = .ok (.if_icmp .ge 36, 3) := by decide +kernel
theorem dX6_tellNext_73 : decode cX6_tellNext 73 = .ok (.aload_n 0, 1) := by decide +kernel
theorem dX6_tellNext_74 : decode cX6_tellNext 74 = .ok (.iload_n 1, 1) := by decide +kernel
theorem dX6_tellNext_75 : decode cX6_tellNext 75 = .ok (.iload 5, 2) := by decide +kernel
theorem dX6_tellNext_77 : decode cX6_tellNext 77 = .ok (.iload 6, 2) := by decide +kernel
theorem dX6_tellNext_79 : decode cX6_tellNext 79 = .ok (.invokevirtual 109, 3) := by decide +kernel
theorem dX6_tellNext_82 : decode cX6_tellNext 82 = .ok (.istore 7, 2) := by decide +kernel
theorem dX6_tellNext_84 : decode cX6_tellNext 84 = .ok (.iload 7, 2) := by decide +kernel
theorem dX6_tellNext_86 : decode cX6_tellNext 86 = .ok (.iload_n 2, 1) := by decide +kernel
theorem dX6_tellNext_87 : decode cX6_tellNext 87 = .ok (.if_icmp .ge 13, 3) := by decide +kernel
theorem dX6_tellNext_90 : decode cX6_tellNext 90 = .ok (.iload 7, 2) := by decide +kernel
theorem dX6_tellNext_92 : decode cX6_tellNext 92 = .ok (.istore_n 2, 1) := by decide +kernel
theorem dX6_tellNext_93 : decode cX6_tellNext 93 = .ok (.iload 5, 2) := by decide +kernel
theorem dX6_tellNext_95 : decode cX6_tellNext 95 = .ok (.istore_n 3, 1) := by decide +kernel
theorem dX6_tellNext_96 : decode cX6_tellNext 96 = .ok (.iload 6, 2) := by decide +kernel
theorem dX6_tellNext_98 : decode cX6_tellNext 98 = .ok (.istore 4, 2) := by decide +kernel
theorem dX6_tellNext_100 : decode cX6_tellNext 100 = .ok (.iinc 6 1, 3) := by decide +kernel
theorem dX6_tellNext_103 : decode cX6_tellNext 103 = .ok (.goto (-42), 3) := by decide +kernel
theorem dX6_tellNext_106 : decode cX6_tellNext 106 = .ok (.iinc 5 1, 3) := by decide +kernel
theorem dX6_tellNext_109 : decode cX6_tellNext 109 = .ok (.goto (-66), 3) := by decide +kernel
theorem dX6_tellNext_112 : decode cX6_tellNext 112 = .ok (.aload_n 0, 1) := by decide +kernel
theorem dX6_tellNext_113 : decode cX6_tellNext 113 = .ok (.getfield 33, 3) := by decide +kernel
theorem dX6_tellNext_116 : decode cX6_tellNext 116 = .ok (.invokevirtual 91, 3) := by decide +kernel
theorem dX6_tellNext_119 : decode cX6_tellNext 119 = .ok (.aload_n 0, 1) := by decide +kernel
theorem dX6_tellNext_120 : decode cX6_tellNext 120 = .ok (.getfield 33, 3) := by decide +kernel
theorem dX6_tellNext_123 : decode cX6_tellNext 123 = .ok (.iload_n 3, 1) := by decide +kernel
theorem dX6_tellNext_124 : decode cX6_tellNext 124 = .ok (.i2l, 1) := by decide +kernel
theorem dX6_tellNext_125 : decode cX6_tellNext 125 = .ok (.invokevirtual 98, 3) := by decide +kernel
theorem dX6_tellNext_128 : decode cX6_tellNext 128 = .ok (.aload_n 0, 1) := by decide +kernel
theorem dX6_tellNext_129 : decode cX6_tellNext 129 = .ok (.getfield 33, 3) := by decide +kernel
theorem dX6_tellNext_132 : decode cX6_tellNext 132 = .ok (.iload 4, 2) := by decide +kernel
theorem dX6_tellNext_134 : decode cX6_tellNext 134 = .ok (.i2l, 1) := by decide +kernel
theorem dX6_tellNext_135 : decode cX6_tellNext 135 = .ok (.invokevirtual 98, 3) := by decide +kernel
theorem dX6_tellNext_138 : decode cX6_tellNext 138 = .ok (.iload_n 2, 1) := by decide +kernel
theorem dX6_tellNext_139 : decode cX6_tellNext 139 = .ok (.ireturn, 1) := by decide +kernel
theorem dX6_mostLeft_0 : decode cX6_mostLeft 0 = .ok (.iconst 0, 1) := by decide +kernel
theorem dX6_mostLeft_1 : decode cX6_mostLeft 1 = .ok (.istore 4, 2) := by decide +kernel
theorem dX6_mostLeft_3 : decode cX6_mostLeft 3 = .ok (.iconst 0, 1) := by decide +kernel
theorem dX6_mostLeft_4 : decode cX6_mostLeft 4 = .ok (.istore 5, 2) := by decide +kernel
theorem dX6_mostLeft_6 : decode cX6_mostLeft 6 = .ok (.iconst 0, 1) := by decide +kernel
theorem dX6_mostLeft_7 : decode cX6_mostLeft 7 = .ok (.istore 6, 2) := by decide +kernel
theorem dX6_mostLeft_9 : decode cX6_mostLeft 9 = .ok (.iconst 0, 1) := by decide +kernel
theorem dX6_mostLeft_10 : decode cX6_mostLeft 10 = .ok (.istore 7, 2) := by decide +kernel
theorem dX6_mostLeft_12 : decode cX6_mostLeft 12 = .ok (.iload 7, 2) := by decide +kernel
theorem dX6_mostLeft_14 : decode cX6_mostLeft 14 = .ok (.bipush 6, 2) := by decide +kernel
theorem dX6_mostLeft_16 : decode cX6_mostLeft 16 = .ok (.if_icmp .ge 87, 3) := by decide +kernel
theorem dX6_mostLeft_19 : decode cX6_mostLeft 19 = .ok (.iload_n 1, 1) := by decide +kernel
theorem dX6_mostLeft_20 : decode cX6_mostLeft 20 = .ok (.iload 7, 2) := by decide +kernel
theorem dX6_mostLeft_22 : decode cX6_mostLeft 22 = .ok (.ishr, 1) := by decide +kernel
theorem dX6_mostLeft_23 : decode cX6_mostLeft 23 = .ok (.iconst 1, 1) := by decide +kernel
theorem dX6_mostLeft_24 : decode cX6_mostLeft 24 = .ok (.iand, 1) := by decide +kernel
theorem dX6_mostLeft_25 : decode cX6_mostLeft 25 = .ok (.iconst 1, 1) := by decide +kernel
theorem dX6_mostLeft_26 : decode cX6_mostLeft 26 = .ok (.if_icmp .ne 71, 3) := by decide +kernel
theorem dX6_mostLeft_29 : decode cX6_mostLeft 29 = .ok (.aload_n 0, 1) := by decide +kernel
theorem dX6_mostLeft_30 : decode cX6_mostLeft 30 = .ok (.getfield 23, 3) := by decide +kernel
theorem dX6_mostLeft_33 : decode cX6_mostLeft 33 = .ok (.iload 7, 2) := by decide +kernel
theorem dX6_mostLeft_35 : decode cX6_mostLeft 35 = .ok (.aaload, 1) := by decide +kernel
theorem dX6_mostLeft_36 : decode cX6_mostLeft 36 = .ok (.iload_n 2, 1) := by decide +kernel
theorem dX6_mostLeft_37 : decode cX6_mostLeft 37 = .ok (.iaload, 1) := by decide +kernel
theorem dX6_mostLeft_38 : decode cX6_mostLeft 38 = .ok (.aload_n 0, 1) := by decide +kernel
theorem dX6_mostLeft_39 : decode cX6_mostLeft 39 = .ok (.getfield 23, 3) := by decide +kernel
theorem dX6_mostLeft_42 : decode cX6_mostLeft 42 = .ok (.iload 7, 2) := by decide +kernel
theorem dX6_mostLeft_44 : decode cX6_mostLeft 44 = .ok (.aaload, 1) := by decide +kernel
theorem dX6_mostLeft_45 : decode cX6_mostLeft 45 = .ok (.iload_n 3, 1) := by decide +kernel
theorem dX6_mostLeft_46 : decode cX6_mostLeft 46 = .ok (.iaload, 1) := by decide +kernel
theorem dX6_mostLeft_47 : decode cX6_mostLeft 47 = .ok (.invokestatic 82, 3) := by decide +kernel
theorem dX6_mostLeft_50 : decode cX6_mostLeft 50 = .ok (.istore 8, 2) := by decide +kernel
theorem dX6_mostLeft_52 : decode cX6_mostLeft 52 = .ok (.iload 4, 2) := by decide +kernel
theorem dX6_mostLeft_54 : decode cX6_mostLeft 54 = .ok (.iload 8, 2) := by decide +kernel
theorem dX6_mostLeft_56 : decode cX6_mostLeft 56 = .ok (.ifCond .ne 7, 3) := by decide +kernel
theorem dX6_mostLeft_59 : decode cX6_mostLeft 59 = .ok (.iconst 1, 1) := by decide +kernel
theorem dX6_mostLeft_60 : decode cX6_mostLeft 60 = .ok (.goto 4, 3) := by decide +kernel
theorem dX6_mostLeft_63 : decode cX6_mostLeft 63 = .ok (.iconst 0, 1) := by decide +kernel
theorem dX6_mostLeft_64 : decode cX6_mostLeft 64 = .ok (.iadd, 1) := by decide +kernel
theorem dX6_mostLeft_65 : decode cX6_mostLeft 65 = .ok (.istore 4, 2) := by decide +kernel
theorem dX6_mostLeft_67 : decode cX6_mostLeft 67 = .ok (.iload 5, 2) := by decide +kernel
theorem dX6_mostLeft_69 : decode cX6_mostLeft 69 = .ok (.iload 8, 2) := by decide +kernel
theorem dX6_mostLeft_71 : decode cX6_mostLeft 71 = .ok (.ifCond .le 7, 3) := by decide +kernel
theorem dX6_mostLeft_74 : decode cX6_mostLeft 74 = .ok (.iconst 1, 1) := by decide +kernel
theorem dX6_mostLeft_75 : decode cX6_mostLeft 75 = .ok (.goto 4, 3) := by decide +kernel
theorem dX6_mostLeft_78 : decode cX6_mostLeft 78 = .ok (.iconst 0, 1) := by decide +kernel
theorem dX6_mostLeft_79 : decode cX6_mostLeft 79 = .ok (.iadd, 1) := by decide +kernel
theorem dX6_mostLeft_80 : decode cX6_mostLeft 80 = .ok (.istore 5, 2) := by decide +kernel
theorem dX6_mostLeft_82 : decode cX6_mostLeft 82 = .ok (.iload 6, 2) := by decide +kernel
theorem dX6_mostLeft_84 : decode cX6_mostLeft 84 = .ok (.iload 8, 2) := by decide +kernel
theorem dX6_mostLeft_86 : decode cX6_mostLeft 86 = .ok (.ifCond .ge 7, 3) := by decide +kernel
theorem dX6_mostLeft_89 : decode cX6_mostLeft 89 = .ok (.iconst 1, 1) := by decide +kernel
theorem dX6_mostLeft_90 : decode cX6_mostLeft 90 = .ok (.goto 4, 3) := by decide +kernel
theorem dX6_mostLeft_93 : decode cX6_mostLeft 93 = .ok (.iconst 0, 1) := by decide +kernel
theorem dX6_mostLeft_94 : decode cX6_mostLeft 94 = .ok (.iadd, 1) := by decide +kernel
theorem dX6_mostLeft_95 : decode cX6_mostLeft 95 = .ok (.istore 6, 2) := by decide +kernel
theorem dX6_mostLeft_97 : decode cX6_mostLeft 97 = .ok (.iinc 7 1, 3) := by decide +kernel
theorem dX6_mostLeft_100 : decode cX6_mostLeft 100 = .ok (.goto (-88), 3) := by decide +kernel
theorem dX6_mostLeft_103 : decode cX6_mostLeft 103 = .ok (.iload 4, 2) := by decide +kernel
theorem dX6_mostLeft_105 : decode cX6_mostLeft 105 = .ok (.iload 5, 2) := by decide +kernel
theorem dX6_mostLeft_107 : decode cX6_mostLeft 107 = .ok (.iload 6, 2) := by decide +kernel
theorem dX6_mostLeft_109 : decode cX6_mostLeft 109 = .ok (.invokestatic 113, 3) := by decide +kernel
theorem dX6_mostLeft_112 : decode cX6_mostLeft 112 = .ok (.iadd, 1) := by decide +kernel
theorem dX6_mostLeft_113 : decode cX6_mostLeft 113 = .ok (.ireturn, 1) := by decide +kernel
theorem dX7_init_0 : decode cX7_init 0 = .ok (.aload_n 0, 1) := by decide +kernel
theorem dX7_init_1 : decode cX7_init 1 = .ok (.invokespecial 1, 3) := by decide +kernel
theorem dX7_init_4 : decode cX7_init 4 = .ok (.aload_n 0, 1) := by decide +kernel
theorem dX7_init_5 : decode cX7_init 5 = .ok (.bipush 10, 2) := by decide +kernel
theorem dX7_init_7 : decode cX7_init 7 = .ok (.newarray .long, 2) := by decide +kernel
theorem dX7_init_9 : decode cX7_init 9 = .ok (.putfield 9, 3) := by decide +kernel
theorem dX7_init_12 : decode cX7_init 12 = .ok (.return_, 1) := by decide +kernel
theorem dX7_clear_0 : decode cX7_clear 0 = .ok (.aload_n 0, 1) := by decide +kernel
theorem dX7_clear_1 : decode cX7_clear 1 = .ok (.iconst 0, 1) := by decide +kernel
theorem dX7_clear_2 : decode cX7_clear 2 = .ok (.putfield 13, 3) := by decide +kernel
theorem dX7_clear_5 : decode cX7_clear 5 = .ok (.return_, 1) := by decide +kernel
theorem dX7_add_0 : decode cX7_add 0 = .ok (.aload_n 0, 1) := by decide +kernel
theorem dX7_add_1 : decode cX7_add 1 = .ok (.getfield 13, 3) := by decide +kernel
theorem dX7_add_4 : decode cX7_add 4 = .ok (.bipush 10, 2) := by decide +kernel
theorem dX7_add_6 : decode cX7_add 6 = .ok (.if_icmp .ge 23, 3) := by decide +kernel
theorem dX7_add_9 : decode cX7_add 9 = .ok (.aload_n 0, 1) := by decide +kernel
theorem dX7_add_10 : decode cX7_add 10 = .ok (.getfield 9, 3) := by decide +kernel
theorem dX7_add_13 : decode cX7_add 13 = .ok (.aload_n 0, 1) := by decide +kernel
theorem dX7_add_14 : decode cX7_add 14 = .ok (.getfield 13, 3) := by decide +kernel
theorem dX7_add_17 : decode cX7_add 17 = .ok (.lload_n 1, 1) := by decide +kernel
theorem dX7_add_18 : decode cX7_add 18 = .ok (.lastore, 1) := by decide +kernel
theorem dX7_add_19 : decode cX7_add 19 = .ok (.aload_n 0, 1) := by decide +kernel
theorem dX7_add_20 : decode cX7_add 20 = .ok (.dup, 1) := by decide +kernel
theorem dX7_add_21 : decode cX7_add 21 = .ok (.getfield 13, 3) := by decide +kernel
theorem dX7_add_24 : decode cX7_add 24 = .ok (.iconst 1, 1) := by decide +kernel
theorem dX7_add_25 : decode cX7_add 25 = .ok (.iadd, 1) := by decide +kernel
theorem dX7_add_26 : decode cX7_add 26 = .ok (.putfield 13, 3) := by decide +kernel
theorem dX7_add_29 : decode cX7_add 29 = .ok (.return_, 1) := by decide +kernel
theorem dX7_addFraction_0 : decode cX7_addFraction 0 = .ok (.lload_n 1, 1) := by decide +kernel
theorem dX7_addFraction_1 : decode cX7_addFraction 1 = .ok (.lload_n 3, 1) := by decide +kernel
theorem dX7_addFraction_2 : decode cX7_addFraction 2 = .ok (.invokestatic 17, 3) := by decide +kernel
theorem dX7_addFraction_5 : decode cX7_addFraction 5 = .ok (.lstore 5, 2) := by decide +kernel
theorem dX7_addFraction_7 : decode cX7_addFraction 7 = .ok (.lload 5, 2) := by decide +kernel
theorem dX7_addFraction_9 : decode cX7_addFraction 9 = .ok (.lconst 0, 1) := by decide +kernel
theorem dX7_addFraction_10 : decode cX7_addFraction 10 = .ok (.lcmp, 1) := by decide +kernel
theorem dX7_addFraction_11 : decode cX7_addFraction 11 = .ok (.ifCond .eq 19, 3) := by decide +kernel
theorem dX7_addFraction_14 : decode cX7_addFraction 14 = .ok (.aload_n 0, 1) := by decide +kernel
theorem dX7_addFraction_15 : decode cX7_addFraction 15 = .ok (.lload_n 1, 1) := by decide +kernel
theorem dX7_addFraction_16 : decode cX7_addFraction 16 = .ok (.lload 5, 2) := by decide +kernel
theorem dX7_addFraction_18 : decode cX7_addFraction 18 = .ok (.ldiv, 1) := by decide +kernel
theorem dX7_addFraction_19 : decode cX7_addFraction 19 = .ok (.invokevirtual 23, 3) := by decide +kernel
theorem dX7_addFraction_22 : decode cX7_addFraction 22 = .ok (.aload_n 0, 1) := by decide +kernel
theorem dX7_addFraction_23 : decode cX7_addFraction 23 = .ok (.lload_n 3, 1) := by decide +kernel
theorem dX7_addFraction_24 : decode cX7_addFraction 24 = .ok (.lload 5, 2) := by decide +kernel
theorem dX7_addFraction_26 : decode cX7_addFraction 26 = .ok (.ldiv, 1) := by decide +kernel
theorem dX7_addFraction_27 : decode cX7_addFraction 27 = .ok (.invokevirtual 23, 3) := by decide +kernel
theorem dX7_addFraction_30 : decode cX7_addFraction 30 = .ok (.return_, 1) := by decide +kernel
theorem dX8_init_0 : decode cX8_init 0 = .ok (.aload_n 0, 1) := by decide +kernel
theorem dX8_init_1 : decode cX8_init 1 = .ok (.invokespecial 3, 3) := by decide +kernel
theorem dX8_init_4 : decode cX8_init 4 = .ok (.aload_n 0, 1) := by decide +kernel
theorem dX8_init_5 : decode cX8_init 5 = .ok (.new 9, 3) := by decide +kernel
theorem dX8_init_8 : decode cX8_init 8 = .ok (.dup, 1) := by decide +kernel
theorem dX8_init_9 : decode cX8_init 9 = .ok (.invokespecial 11, 3) := by decide +kernel
theorem dX8_init_12 : decode cX8_init 12 = .ok (.putfield 12, 3) := by decide +kernel
theorem dX8_init_15 : decode cX8_init 15 = .ok (.aload_n 0, 1) := by decide +kernel
theorem dX8_init_16 : decode cX8_init 16 = .ok (.new 9, 3) := by decide +kernel
theorem dX8_init_19 : decode cX8_init 19 = .ok (.dup, 1) := by decide +kernel
theorem dX8_init_20 : decode cX8_init 20 = .ok (.invokespecial 11, 3) := by decide +kernel
theorem dX8_init_23 : decode cX8_init 23 = .ok (.putfield 18, 3) := by decide +kernel
theorem dX8_init_26 : decode cX8_init 26 = .ok (.aload_n 0, 1) := by decide +kernel
theorem dX8_init_27 : decode cX8_init 27 = .ok (.new 9, 3) := by decide +kernel
theorem dX8_init_30 : decode cX8_init 30 = .ok (.dup, 1) := by decide +kernel
theorem dX8_init_31 : decode cX8_init 31 = .ok (.invokespecial 11, 3) := by decide +kernel
theorem dX8_init_34 : decode cX8_init 34 = .ok (.putfield 21, 3) := by decide +kernel
theorem dX8_init_37 : decode cX8_init 37 = .ok (.aload_n 0, 1) := by decide +kernel
theorem dX8_init_38 : decode cX8_init 38 = .ok (.bipush 97, 2) := by decide +kernel
theorem dX8_init_40 : decode cX8_init 40 = .ok (.newarray .long, 2) := by decide +kernel
theorem dX8_init_42 : decode cX8_init 42 = .ok (.putfield 24, 3) := by decide +kernel
theorem dX8_init_45 : decode cX8_init 45 = .ok (.aload_n 0, 1) := by decide +kernel
theorem dX8_init_46 : decode cX8_init 46 = .ok (.bipush 12, 2) := by decide +kernel
theorem dX8_init_48 : decode cX8_init 48 = .ok (.newarray .int, 2) := by decide +kernel
theorem dX8_init_50 : decode cX8_init 50 = .ok (.putfield 28, 3) := by decide +kernel
theorem dX8_init_53 : decode cX8_init 53 = .ok (.aload_n 0, 1) := by decide +kernel
theorem dX8_init_54 : decode cX8_init 54 = .ok (.bipush 12, 2) := by decide +kernel
theorem dX8_init_56 : decode cX8_init 56 = .ok (.newarray .int, 2) := by decide +kernel
theorem dX8_init_58 : decode cX8_init 58 = .ok (.putfield 32, 3) := by decide +kernel
theorem dX8_init_61 : decode cX8_init 61 = .ok (.aload_n 0, 1) := by decide +kernel
theorem dX8_init_62 : decode cX8_init 62 = .ok (.bipush 12, 2) := by decide +kernel
theorem dX8_init_64 : decode cX8_init 64 = .ok (.newarray .int, 2) := by decide +kernel
theorem dX8_init_66 : decode cX8_init 66 = .ok (.putfield 35, 3) := by decide +kernel
theorem dX8_init_69 : decode cX8_init 69 = .ok (.aload_n 0, 1) := by decide +kernel
theorem dX8_init_70 : decode cX8_init 70 = .ok (.bipush 12, 2) := by decide +kernel
theorem dX8_init_72 : decode cX8_init 72 = .ok (.newarray .long, 2) := by decide +kernel
theorem dX8_init_74 : decode cX8_init 74 = .ok (.putfield 38, 3) := by decide +kernel
theorem dX8_init_77 : decode cX8_init 77 = .ok (.aload_n 0, 1) := by decide +kernel
theorem dX8_init_78 : decode cX8_init 78 = .ok (.aload_n 1, 1) := by decide +kernel
theorem dX8_init_79 : decode cX8_init 79 = .ok (.putfield 41, 3) := by decide +kernel
theorem dX8_init_82 : decode cX8_init 82 = .ok (.aload_n 0, 1) := by decide +kernel
theorem dX8_init_83 : decode cX8_init 83 = .ok (.aload_n 2, 1) := by decide +kernel
theorem dX8_init_84 : decode cX8_init 84 = .ok (.putfield 45, 3) := by decide +kernel
theorem dX8_init_87 : decode cX8_init 87 = .ok (.return_, 1) := by decide +kernel
theorem dX8_gather_0 : decode cX8_gather 0 = .ok (.aload_n 1, 1) := by decide +kernel
theorem dX8_gather_1 : decode cX8_gather 1 = .ok (.invokevirtual 49, 3) := by decide +kernel
theorem dX8_gather_4 : decode cX8_gather 4 = .ok (.iconst 0, 1) := by decide +kernel
theorem dX8_gather_5 : decode cX8_gather 5 = .ok (.istore 4, 2) := by decide +kernel
theorem dX8_gather_7 : decode cX8_gather 7 = .ok (.iload 4, 2) := by decide +kernel
theorem dX8_gather_9 : decode cX8_gather 9 = .ok (.aload_n 0, 1) := by decide +kernel
theorem dX8_gather_10 : decode cX8_gather 10 = .ok (.getfield 41, 3) := by decide +kernel
theorem dX8_gather_13 : decode cX8_gather 13 = .ok (.getfield 52, 3) := by decide +kernel
theorem dX8_gather_16 : decode cX8_gather 16 = .ok (.if_icmp .ge 86, 3) := by decide +kernel
theorem dX8_gather_19 : decode cX8_gather 19 = .ok (.aload_n 0, 1) := by decide +kernel
theorem dX8_gather_20 : decode cX8_gather 20 = .ok (.getfield 41, 3) := by decide +kernel
theorem dX8_gather_23 : decode cX8_gather 23 = .ok (.getfield 58, 3) := by decide +kernel
theorem dX8_gather_26 : decode cX8_gather 26 = .ok (.iload 4, 2) := by decide +kernel
theorem dX8_gather_28 : decode cX8_gather 28 = .ok (.aaload, 1) := by decide +kernel
theorem dX8_gather_29 : decode cX8_gather 29 = .ok (.astore 5, 2) := by decide +kernel
theorem dX8_gather_31 : decode cX8_gather 31 = .ok (.aload 5, 2) := by decide +kernel
theorem dX8_gather_33 : decode cX8_gather 33 = .ok (.getfield 62, 3) := by decide +kernel
theorem dX8_gather_36 : decode cX8_gather 36 = .ok (.ifCond .eq 21, 3) := by decide +kernel
theorem dX8_gather_39 : decode cX8_gather 39 = .ok (.iload_n 3, 1) := by decide +kernel
theorem dX8_gather_40 : decode cX8_gather 40 = .ok (.iconst (-1), 1) := by decide +kernel
theorem dX8_gather_41 : decode cX8_gather 41 = .ok (.if_icmp .eq 12, 3) := by decide +kernel
theorem dX8_gather_44 : decode cX8_gather 44 = .ok (.aload 5, 2) := by decide +kernel
theorem dX8_gather_46 : decode cX8_gather 46 = .ok (.getfield 68, 3) := by decide +kernel
theorem dX8_gather_49 : decode cX8_gather 49 = .ok (.iload_n 3, 1) := by decide +kernel
theorem dX8_gather_50 : decode cX8_gather 50 = .ok (.if_icmp .ne 7, 3) := by decide +kernel
theorem dX8_gather_53 : decode cX8_gather 53 = .ok (.iconst 1, 1) := by decide +kernel
theorem dX8_gather_54 : decode cX8_gather 54 = .ok (.goto 4, 3) := by decide +kernel
theorem dX8_gather_57 : decode cX8_gather 57 = .ok (.iconst 0, 1) := by decide +kernel
theorem dX8_gather_58 : decode cX8_gather 58 = .ok (.istore 6, 2) := by decide +kernel
theorem dX8_gather_60 : decode cX8_gather 60 = .ok (.iload 6, 2) := by decide +kernel
theorem dX8_gather_62 : decode cX8_gather 62 = .ok (.ifCond .eq 34, 3) := by decide +kernel
theorem dX8_gather_65 : decode cX8_gather 65 = .ok (.aload_n 0, 1) := by decide +kernel
theorem dX8_gather_66 : decode cX8_gather 66 = .ok (.getfield 41, 3) := by decide +kernel
theorem dX8_gather_69 : decode cX8_gather 69 = .ok (.aload 5, 2) := by decide +kernel
theorem dX8_gather_71 : decode cX8_gather 71 = .ok (.iload_n 2, 1) := by decide +kernel
theorem dX8_gather_72 : decode cX8_gather 72 = .ok (.invokevirtual 71, 3) := by decide +kernel
theorem dX8_gather_75 : decode cX8_gather 75 = .ok (.ifCond .eq 21, 3) := by decide +kernel
theorem dX8_gather_78 : decode cX8_gather 78 = .ok (.aload_n 1, 1) := by decide +kernel
theorem dX8_gather_79 : decode cX8_gather 79 = .ok (.aload_n 0, 1) := by decide +kernel
theorem dX8_gather_80 : decode cX8_gather 80 = .ok (.getfield 41, 3) := by decide +kernel
theorem dX8_gather_83 : decode cX8_gather 83 = .ok (.aload 5, 2) := by decide +kernel
theorem dX8_gather_85 : decode cX8_gather 85 = .ok (.invokevirtual 75, 3) := by decide +kernel
theorem dX8_gather_88 : decode cX8_gather 88 = .ok (.aload 5, 2) := by decide +kernel
theorem dX8_gather_90 : decode cX8_gather 90 = .ok (.getfield 79, 3) := by decide +kernel
theorem dX8_gather_93 : decode cX8_gather 93 = .ok (.invokevirtual 82, 3) := by decide +kernel
theorem dX8_gather_96 : decode cX8_gather 96 = .ok (.iinc 4 1, 3) := by decide +kernel
theorem dX8_gather_99 : decode cX8_gather 99 = .ok (.goto (-92), 3) := by decide +kernel
theorem dX8_gather_102 : decode cX8_gather 102 = .ok (.return_, 1) := by decide +kernel
theorem dX8_tellShare_0 : decode cX8_tellShare 0 = .ok (.aload_n 0, 1) := by decide +kernel
theorem dX8_tellShare_1 : decode cX8_tellShare 1 = .ok (.getfield 41, 3) := by decide +kernel
theorem dX8_tellShare_4 : decode cX8_tellShare 4 = .ok (.iload_n 1, 1) := by decide +kernel
theorem dX8_tellShare_5 : decode cX8_tellShare 5 = .ok (.invokevirtual 86, 3) := by decide +kernel
theorem dX8_tellShare_8 : decode cX8_tellShare 8 = .ok (.ifCond .ne 5, 3) := by decide +kernel
theorem dX8_tellShare_11 : decode cX8_tellShare 11 = .ok (.iconst (-1), 1) := by decide +kernel
theorem dX8_tellShare_12 : decode cX8_tellShare 12 = .ok (.ireturn, 1) := by decide +kernel
theorem dX8_tellShare_13 : decode cX8_tellShare 13 = .ok (.aload_n 0, 1) := by decide +kernel
theorem dX8_tellShare_14 : decode cX8_tellShare 14 = .ok (.aload_n 0, 1) := by decide +kernel
theorem dX8_tellShare_15 : decode cX8_tellShare 15 = .ok (.getfield 12, 3) := by decide +kernel
theorem dX8_tellShare_18 : decode cX8_tellShare 18 = .ok (.iload_n 1, 1) := by decide +kernel
theorem dX8_tellShare_19 : decode cX8_tellShare 19 = .ok (.iconst (-1), 1) := by decide +kernel
theorem dX8_tellShare_20 : decode cX8_tellShare 20 = .ok (.invokevirtual 90, 3) := by decide +kernel
theorem dX8_tellShare_23 : decode cX8_tellShare 23 = .ok (.aload_n 0, 1) := by decide +kernel
theorem dX8_tellShare_24 : decode cX8_tellShare 24 = .ok (.getfield 45, 3) := by decide +kernel
theorem dX8_tellShare_27 : decode cX8_tellShare 27 = .ok (.invokevirtual 94, 3) := by decide +kernel
theorem dX8_tellShare_30 : decode cX8_tellShare 30 = .ok (.aload_n 0, 1) := by decide +kernel
theorem dX8_tellShare_31 : decode cX8_tellShare 31 = .ok (.getfield 12, 3) := by decide +kernel
theorem dX8_tellShare_34 : decode cX8_tellShare 34 = .ok (.invokevirtual 97, 3) := by decide +kernel
theorem dX8_tellShare_37 : decode cX8_tellShare 37 = .ok (.ifCond .le 38, 3) := by decide +kernel
theorem dX8_tellShare_40 : decode cX8_tellShare 40 = .ok (.aload_n 0, 1) := by decide +kernel
theorem dX8_tellShare_41 : decode cX8_tellShare 41 = .ok (.getfield 45, 3) := by decide +kernel
theorem dX8_tellShare_44 : decode cX8_tellShare 44 = .ok (.aload_n 0, 1) := by decide +kernel
theorem dX8_tellShare_45 : decode cX8_tellShare 45 = .ok (.getfield 12, 3) := by decide +kernel
theorem dX8_tellShare_48 : decode cX8_tellShare 48 = .ok (.getfield 100, 3) := by decide +kernel
theorem dX8_tellShare_51 : decode cX8_tellShare 51 = .ok (.iconst 0, 1) := by decide +kernel
theorem dX8_tellShare_52 : decode cX8_tellShare 52 = .ok (.iaload, 1) := by decide +kernel
theorem dX8_tellShare_53 : decode cX8_tellShare 53 = .ok (.aload_n 0, 1) := by decide +kernel
theorem dX8_tellShare_54 : decode cX8_tellShare 54 = .ok (.getfield 12, 3) := by decide +kernel
theorem dX8_tellShare_57 : decode cX8_tellShare 57 = .ok (.getfield 100, 3) := by decide +kernel
theorem dX8_tellShare_60 : decode cX8_tellShare 60 = .ok (.iconst 1, 1) := by decide +kernel
theorem dX8_tellShare_61 : decode cX8_tellShare 61 = .ok (.iaload, 1) := by decide +kernel
theorem dX8_tellShare_62 : decode cX8_tellShare 62 = .ok (.iadd, 1) := by decide +kernel
theorem dX8_tellShare_63 : decode cX8_tellShare 63 = .ok (.i2l, 1) := by decide +kernel
theorem dX8_tellShare_64 : decode cX8_tellShare 64 = .ok (.aload_n 0, 1) := by decide +kernel
theorem dX8_tellShare_65 : decode cX8_tellShare 65 = .ok (.getfield 12, 3) := by decide +kernel
theorem dX8_tellShare_68 : decode cX8_tellShare 68 = .ok (.invokevirtual 97, 3) := by decide +kernel
theorem dX8_tellShare_71 : decode cX8_tellShare 71 = .ok (.i2l, 1) := by decide +kernel
theorem dX8_tellShare_72 : decode cX8_tellShare 72 = .ok (.invokevirtual 102, 3) := by decide +kernel
theorem dX8_tellShare_75 : decode cX8_tellShare 75 = .ok (.aload_n 0, 1) := by decide +kernel
theorem dX8_tellShare_76 : decode cX8_tellShare 76 = .ok (.getfield 12, 3) := by decide +kernel
theorem dX8_tellShare_79 : decode cX8_tellShare 79 = .ok (.invokevirtual 97, 3) := by decide +kernel
theorem dX8_tellShare_82 : decode cX8_tellShare 82 = .ok (.ireturn, 1) := by decide +kernel
theorem dX8_tellAside_0 : decode cX8_tellAside 0 = .ok (.aload_n 0, 1) := by decide +kernel
theorem dX8_tellAside_1 : decode cX8_tellAside 1 = .ok (.getfield 41, 3) := by decide +kernel
theorem dX8_tellAside_4 : decode cX8_tellAside 4 = .ok (.iload_n 1, 1) := by decide +kernel
theorem dX8_tellAside_5 : decode cX8_tellAside 5 = .ok (.invokevirtual 86, 3) := by decide +kernel
theorem dX8_tellAside_8 : decode cX8_tellAside 8 = .ok (.ifCond .ne 5, 3) := by decide +kernel
theorem dX8_tellAside_11 : decode cX8_tellAside 11 = .ok (.iconst (-1), 1) := by decide +kernel
theorem dX8_tellAside_12 : decode cX8_tellAside 12 = .ok (.ireturn, 1) := by decide +kernel
theorem dX8_tellAside_13 : decode cX8_tellAside 13 = .ok (.aload_n 0, 1) := by decide +kernel
theorem dX8_tellAside_14 : decode cX8_tellAside 14 = .ok (.aload_n 0, 1) := by decide +kernel
theorem dX8_tellAside_15 : decode cX8_tellAside 15 = .ok (.getfield 12, 3) := by decide +kernel
theorem dX8_tellAside_18 : decode cX8_tellAside 18 = .ok (.iload_n 1, 1) := by decide +kernel
theorem dX8_tellAside_19 : decode cX8_tellAside 19 = .ok (.iconst (-1), 1) := by decide +kernel
theorem dX8_tellAside_20 : decode cX8_tellAside 20 = .ok (.invokevirtual 90, 3) := by decide +kernel
theorem dX8_tellAside_23 : decode cX8_tellAside 23 = .ok (.aload_n 0, 1) := by decide +kernel
theorem dX8_tellAside_24 : decode cX8_tellAside 24 = .ok (.getfield 12, 3) := by decide +kernel
theorem dX8_tellAside_27 : decode cX8_tellAside 27 = .ok (.invokevirtual 106, 3) := by decide +kernel
theorem dX8_tellAside_30 : decode cX8_tellAside 30 = .ok (.ifCond .ne 6, 3) := by decide +kernel
theorem dX8_tellAside_33 : decode cX8_tellAside 33 = .ok (.bipush (-2), 2) := by decide +kernel
theorem dX8_tellAside_35 : decode cX8_tellAside 35 = .ok (.ireturn, 1) := by decide +kernel
theorem dX8_tellAside_36 : decode cX8_tellAside 36 = .ok (.aload_n 0, 1) := by decide +kernel
theorem dX8_tellAside_37 : decode cX8_tellAside 37 = .ok (.getfield 45, 3) := by decide +kernel
theorem dX8_tellAside_40 : decode cX8_tellAside 40 = .ok (.invokevirtual 94, 3) := by decide +kernel
theorem dX8_tellAside_43 : decode cX8_tellAside 43 = .ok (.aload_n 0, 1) := by decide +kernel
theorem dX8_tellAside_44 : decode cX8_tellAside 44 = .ok (.getfield 45, 3) := by decide +kernel
theorem dX8_tellAside_47 : decode cX8_tellAside 47 = .ok (.aload_n 0, 1) := by decide +kernel
theorem dX8_tellAside_48 : decode cX8_tellAside 48 = .ok (.getfield 12, 3) := by decide +kernel
theorem dX8_tellAside_51 : decode cX8_tellAside 51 = .ok (.invokevirtual 110, 3) := by decide +kernel
theorem dX8_tellAside_54 : decode cX8_tellAside 54 = .ok (.aload_n 0, 1) := by decide +kernel
theorem dX8_tellAside_55 : decode cX8_tellAside 55 = .ok (.getfield 12, 3) := by decide +kernel
theorem dX8_tellAside_58 : decode cX8_tellAside 58 = .ok (.invokevirtual 114, 3) := by decide +kernel
theorem dX8_tellAside_61 : decode cX8_tellAside 61 = .ok (.invokevirtual 102, 3) := by decide +kernel
theorem dX8_tellAside_64 : decode cX8_tellAside 64 = .ok (.iconst 0, 1) := by decide +kernel
theorem dX8_tellAside_65 : decode cX8_tellAside 65 = .ok (.istore_n 2, 1) := by decide +kernel
theorem dX8_tellAside_66 : decode cX8_tellAside 66 = .ok (.iload_n 2, 1) := by decide +kernel
theorem dX8_tellAside_67 : decode cX8_tellAside 67 = .ok (.iconst 2, 1) := by decide +kernel
theorem dX8_tellAside_68 : decode cX8_tellAside 68 = .ok (.if_icmp .ge 43, 3) := by decide +kernel
theorem dX8_tellAside_71 : decode cX8_tellAside 71 = .ok (.aload_n 0, 1) := by decide +kernel
theorem dX8_tellAside_72 : decode cX8_tellAside 72 = .ok (.getfield 45, 3) := by decide +kernel
theorem dX8_tellAside_75 : decode cX8_tellAside 75 = .ok (.aload_n 0, 1) := by decide +kernel
theorem dX8_tellAside_76 : decode cX8_tellAside 76 = .ok (.getfield 12, 3) := by decide +kernel
theorem dX8_tellAside_79 : decode cX8_tellAside 79 = .ok (.getfield 117, 3) := by decide +kernel
theorem dX8_tellAside_82 : decode cX8_tellAside 82 = .ok (.iload_n 2, 1) := by decide +kernel
theorem dX8_tellAside_83 : decode cX8_tellAside 83 = .ok (.iaload, 1) := by decide +kernel
theorem dX8_tellAside_84 : decode cX8_tellAside 84 = .ok (.i2l, 1) := by decide +kernel
theorem dX8_tellAside_85 : decode cX8_tellAside 85 = .ok (.invokevirtual 119, 3) := by decide +kernel
theorem dX8_tellAside_88 : decode cX8_tellAside 88 = .ok (.aload_n 0, 1) := by decide +kernel
theorem dX8_tellAside_89 : decode cX8_tellAside 89 = .ok (.getfield 45, 3) := by decide +kernel
theorem dX8_tellAside_92 : decode cX8_tellAside 92 = .ok (.aload_n 0, 1) := by decide +kernel
theorem dX8_tellAside_93 : decode cX8_tellAside 93 = .ok (.getfield 12, 3) := by decide +kernel
theorem dX8_tellAside_96 : decode cX8_tellAside 96 = .ok (.getfield 100, 3) := by decide +kernel
theorem dX8_tellAside_99 : decode cX8_tellAside 99 = .ok (.iload_n 2, 1) := by decide +kernel
theorem dX8_tellAside_100 : decode cX8_tellAside 100 = .ok (.iaload, 1) := by decide +kernel
theorem dX8_tellAside_101 : decode cX8_tellAside 101 = .ok (.i2l, 1) := by decide +kernel
theorem dX8_tellAside_102 : decode cX8_tellAside 102 = .ok (.invokevirtual 119, 3) := by decide +kernel
theorem dX8_tellAside_105 : decode cX8_tellAside 105 = .ok (.iinc 2 1, 3) := by decide +kernel
theorem dX8_tellAside_108 : decode cX8_tellAside 108 = .ok (.goto (-42), 3) := by decide +kernel
theorem dX8_tellAside_111 : decode cX8_tellAside 111 = .ok (.iconst 0, 1) := by decide +kernel
theorem dX8_tellAside_112 : decode cX8_tellAside 112 = .ok (.ireturn, 1) := by decide +kernel
theorem dX8_tellOdds_0 : decode cX8_tellOdds 0 = .ok (.aload_n 0, 1) := by decide +kernel
theorem dX8_tellOdds_1 : decode cX8_tellOdds 1 = .ok (.getfield 41, 3) := by decide +kernel
theorem dX8_tellOdds_4 : decode cX8_tellOdds 4 = .ok (.iload_n 1, 1) := by decide +kernel
theorem dX8_tellOdds_5 : decode cX8_tellOdds 5 = .ok (.invokevirtual 86, 3) := by decide +kernel
theorem dX8_tellOdds_8 : decode cX8_tellOdds 8 = .ok (.ifCond .eq 12, 3) := by decide +kernel
theorem dX8_tellOdds_11 : decode cX8_tellOdds 11 = .ok (.iload_n 2, 1) := by decide +kernel
theorem dX8_tellOdds_12 : decode cX8_tellOdds 12 = .ok (.iconst 0, 1) := by decide +kernel
theorem dX8_tellOdds_13 : decode cX8_tellOdds 13 = .ok (.iconst 2, 1) := by decide +kernel
theorem dX8_tellOdds_14 : decode cX8_tellOdds 14 = .ok (.invokestatic 123, 3) := by decide +kernel
theorem dX8_tellOdds_17 : decode cX8_tellOdds 17 = .ok (.ifCond .ne 5, 3) := by decide +kernel
theorem dX8_tellOdds_20 : decode cX8_tellOdds 20 = .ok (.iconst (-1), 1) := by decide +kernel
theorem dX8_tellOdds_21 : decode cX8_tellOdds 21 = .ok (.ireturn, 1) := by decide +kernel
theorem dX8_tellOdds_22 : decode cX8_tellOdds 22 = .ok (.aload_n 0, 1) := by decide +kernel
theorem dX8_tellOdds_23 : decode cX8_tellOdds 23 = .ok (.iload_n 1, 1) := by decide +kernel
theorem dX8_tellOdds_24 : decode cX8_tellOdds 24 = .ok (.invokevirtual 127, 3) := by decide +kernel
theorem dX8_tellOdds_27 : decode cX8_tellOdds 27 = .ok (.aload_n 0, 1) := by decide +kernel
theorem dX8_tellOdds_28 : decode cX8_tellOdds 28 = .ok (.aload_n 0, 1) := by decide +kernel
theorem dX8_tellOdds_29 : decode cX8_tellOdds 29 = .ok (.getfield 12, 3) := by decide +kernel
theorem dX8_tellOdds_32 : decode cX8_tellOdds 32 = .ok (.iload_n 1, 1) := by decide +kernel
theorem dX8_tellOdds_33 : decode cX8_tellOdds 33 = .ok (.iconst (-1), 1) := by decide +kernel
theorem dX8_tellOdds_34 : decode cX8_tellOdds 34 = .ok (.invokevirtual 90, 3) := by decide +kernel
theorem dX8_tellOdds_37 : decode cX8_tellOdds 37 = .ok (.aload_n 0, 1) := by decide +kernel
theorem dX8_tellOdds_38 : decode cX8_tellOdds 38 = .ok (.getfield 12, 3) := by decide +kernel
theorem dX8_tellOdds_41 : decode cX8_tellOdds 41 = .ok (.getfield 100, 3) := by decide +kernel
theorem dX8_tellOdds_44 : decode cX8_tellOdds 44 = .ok (.iconst 1, 1) := by decide +kernel
theorem dX8_tellOdds_45 : decode cX8_tellOdds 45 = .ok (.iaload, 1) := by decide +kernel
theorem dX8_tellOdds_46 : decode cX8_tellOdds 46 = .ok (.istore_n 3, 1) := by decide +kernel
theorem dX8_tellOdds_47 : decode cX8_tellOdds 47 = .ok (.lconst 0, 1) := by decide +kernel
theorem dX8_tellOdds_48 : decode cX8_tellOdds 48 = .ok (.lstore 4, 2) := by decide +kernel
theorem dX8_tellOdds_50 : decode cX8_tellOdds 50 = .ok (.lconst 0, 1) := by decide +kernel
theorem dX8_tellOdds_51 : decode cX8_tellOdds 51 = .ok (.lstore 6, 2) := by decide +kernel
theorem dX8_tellOdds_53 : decode cX8_tellOdds 53 = .ok (.iconst 0, 1) := by decide +kernel
theorem dX8_tellOdds_54 : decode cX8_tellOdds 54 = .ok (.istore 8, 2) := by decide +kernel
theorem dX8_tellOdds_56 : decode cX8_tellOdds 56 = .ok (.iload 8, 2) := by decide +kernel
theorem dX8_tellOdds_58 : decode cX8_tellOdds 58 = .ok (.bipush 96, 2) := by decide +kernel
theorem dX8_tellOdds_60 : decode cX8_tellOdds 60 = .ok (.if_icmp .gt 92, 3) := by decide +kernel
theorem dX8_tellOdds_63 : decode cX8_tellOdds 63 = .ok (.iload_n 2, 1) := by decide +kernel
theorem dX8_tellOdds_64 : decode cX8_tellOdds 64 = .ok (.ifCond .ne 17, 3) := by decide +kernel
theorem dX8_tellOdds_67 : decode cX8_tellOdds 67 = .ok (.iload 8, 2) := by decide +kernel
theorem dX8_tellOdds_69 : decode cX8_tellOdds 69 = .ok (.iload_n 3, 1) := by decide +kernel
theorem dX8_tellOdds_70 : decode cX8_tellOdds 70 = .ok (.if_icmp .gt 7, 3) := by decide +kernel
theorem dX8_tellOdds_73 : decode cX8_tellOdds 73 = .ok (.iconst 1, 1) := by decide +kernel
theorem dX8_tellOdds_74 : decode cX8_tellOdds 74 = .ok (.goto 37, 3) := by decide +kernel
theorem dX8_tellOdds_77 : decode cX8_tellOdds 77 = .ok (.iconst 0, 1) := by decide +kernel
theorem dX8_tellOdds_78 : decode cX8_tellOdds 78 = .ok (.goto 33, 3) := by decide +kernel
theorem dX8_tellOdds_81 : decode cX8_tellOdds 81 = .ok (.iload_n 2, 1) := by decide +kernel
theorem dX8_tellOdds_82 : decode cX8_tellOdds 82 = .ok (.iconst 1, 1) := by decide +kernel
theorem dX8_tellOdds_83 : decode cX8_tellOdds 83 = .ok (.if_icmp .ne 17, 3) := by decide +kernel
theorem dX8_tellOdds_86 : decode cX8_tellOdds 86 = .ok (.iload 8, 2) := by decide +kernel
theorem dX8_tellOdds_88 : decode cX8_tellOdds 88 = .ok (.iload_n 3, 1) := by decide +kernel
theorem dX8_tellOdds_89 : decode cX8_tellOdds 89 = .ok (.if_icmp .lt 7, 3) := by decide +kernel
theorem dX8_tellOdds_92 : decode cX8_tellOdds 92 = .ok (.iconst 1, 1) := by decide +kernel
theorem dX8_tellOdds_93 : decode cX8_tellOdds 93 = .ok (.goto 18, 3) := by decide +kernel
theorem dX8_tellOdds_96 : decode cX8_tellOdds 96 = .ok (.iconst 0, 1) := by decide +kernel
theorem dX8_tellOdds_97 : decode cX8_tellOdds 97 = .ok (.goto 14, 3) := by decide +kernel
theorem dX8_tellOdds_100 : decode cX8_tellOdds 100 = .ok (.iload 8, 2) := by decide +kernel
theorem dX8_tellOdds_102 : decode cX8_tellOdds 102 = .ok (.iload_n 3, 1) := by decide +kernel
theorem dX8_tellOdds_103 : decode cX8_tellOdds 103 = .ok (.if_icmp .ne 7, 3) := by decide +kernel
theorem dX8_tellOdds_106 : decode cX8_tellOdds 106 = .ok (.iconst 1, 1) := by decide +kernel
theorem dX8_tellOdds_107 : decode cX8_tellOdds 107 = .ok (.goto 4, 3) := by decide +kernel
theorem dX8_tellOdds_110 : decode cX8_tellOdds 110 = .ok (.iconst 0, 1) := by decide +kernel
theorem dX8_tellOdds_111 : decode cX8_tellOdds 111 = .ok (.istore 9, 2) := by decide +kernel
theorem dX8_tellOdds_113 : decode cX8_tellOdds 113 = .ok (.lload 4, 2) := by decide +kernel
theorem dX8_tellOdds_115 : decode cX8_tellOdds 115 = .ok (.iload 9, 2) := by decide +kernel
theorem dX8_tellOdds_117 : decode cX8_tellOdds 117 = .ok (.ifCond .eq 13, 3) := by decide +kernel
theorem dX8_tellOdds_120 : decode cX8_tellOdds 120 = .ok (.aload_n 0, 1) := by decide +kernel
theorem dX8_tellOdds_121 : decode cX8_tellOdds 121 = .ok (.getfield 24, 3) := by decide +kernel
theorem dX8_tellOdds_124 : decode cX8_tellOdds 124 = .ok (.iload 8, 2) := by decide +kernel
theorem dX8_tellOdds_126 : decode cX8_tellOdds 126 = .ok (.laload, 1) := by decide +kernel
theorem dX8_tellOdds_127 : decode cX8_tellOdds 127 = .ok (.goto 4, 3) := by decide +kernel
theorem dX8_tellOdds_130 : decode cX8_tellOdds 130 = .ok (.lconst 0, 1) := by decide +kernel
theorem dX8_tellOdds_131 : decode cX8_tellOdds 131 = .ok (.ladd, 1) := by decide +kernel
theorem dX8_tellOdds_132 : decode cX8_tellOdds 132 = .ok (.lstore 4, 2) := by decide +kernel
theorem dX8_tellOdds_134 : decode cX8_tellOdds 134 = .ok (.lload 6, 2) := by decide +kernel
theorem dX8_tellOdds_136 : decode cX8_tellOdds 136 = .ok (.aload_n 0, 1) := by decide +kernel
theorem dX8_tellOdds_137 : decode cX8_tellOdds 137 = .ok (.getfield 24, 3) := by decide +kernel
theorem dX8_tellOdds_140 : decode cX8_tellOdds 140 = .ok (.iload 8, 2) := by decide +kernel
theorem dX8_tellOdds_142 : decode cX8_tellOdds 142 = .ok (.laload, 1) := by decide +kernel
theorem dX8_tellOdds_143 : decode cX8_tellOdds 143 = .ok (.ladd, 1) := by decide +kernel
theorem dX8_tellOdds_144 : decode cX8_tellOdds 144 = .ok (.lstore 6, 2) := by decide +kernel
theorem dX8_tellOdds_146 : decode cX8_tellOdds 146 = .ok (.iinc 8 1, 3) := by decide +kernel
theorem dX8_tellOdds_149 : decode cX8_tellOdds 149 = .ok (.goto (-93), 3) := by decide +kernel
theorem dX8_tellOdds_152 : decode cX8_tellOdds 152 = .ok (.aload_n 0, 1) := by decide +kernel
theorem dX8_tellOdds_153 : decode cX8_tellOdds 153 = .ok (.getfield 45, 3) := by decide +kernel
theorem dX8_tellOdds_156 : decode cX8_tellOdds 156 = .ok (.invokevirtual 94, 3) := by decide +kernel
theorem dX8_tellOdds_159 : decode cX8_tellOdds 159 = .ok (.aload_n 0, 1) := by decide +kernel
theorem dX8_tellOdds_160 : decode cX8_tellOdds 160 = .ok (.getfield 45, 3) := by decide +kernel
theorem dX8_tellOdds_163 : decode cX8_tellOdds 163 = .ok (.lload 4, 2) := by decide +kernel
theorem dX8_tellOdds_165 : decode cX8_tellOdds 165 = .ok (.lload 6, 2) := by decide +kernel
theorem dX8_tellOdds_167 : decode cX8_tellOdds 167 = .ok (.invokevirtual 102, 3) := by decide +kernel
theorem dX8_tellOdds_170 : decode cX8_tellOdds 170 = .ok (.iconst 0, 1) := by decide +kernel
theorem dX8_tellOdds_171 : decode cX8_tellOdds 171 = .ok (.ireturn, 1) := by decide +kernel
theorem dX8_countWays_0 : decode cX8_countWays 0 = .ok (.iconst 0, 1) := by decide +kernel
theorem dX8_countWays_1 : decode cX8_countWays 1 = .ok (.istore_n 2, 1) := by decide +kernel
theorem dX8_countWays_2 : decode cX8_countWays 2 = .ok (.iload_n 2, 1) := by decide +kernel
theorem dX8_countWays_3 : decode cX8_countWays 3 = .ok (.bipush 96, 2) := by decide +kernel
theorem dX8_countWays_5 : decode cX8_countWays 5 = .ok (.if_icmp .gt 24, 3) := by decide +kernel
theorem dX8_countWays_8 : decode cX8_countWays 8 = .ok (.aload_n 0, 1) := by decide +kernel
theorem dX8_countWays_9 : decode cX8_countWays 9 = .ok (.getfield 24, 3) := by decide +kernel
theorem dX8_countWays_12 : decode cX8_countWays 12 = .ok (.iload_n 2, 1) := by decide +kernel
theorem dX8_countWays_13 : decode cX8_countWays 13 = .ok (.iload_n 2, 1) := by decide +kernel
theorem dX8_countWays_14 : decode cX8_countWays 14 = .ok (.ifCond .ne 7, 3) := by decide +kernel
theorem dX8_countWays_17 : decode cX8_countWays 17 = .ok (.lconst 1, 1) := by decide +kernel
theorem dX8_countWays_18 : decode cX8_countWays 18 = .ok (.goto 4, 3) := by decide +kernel
theorem dX8_countWays_21 : decode cX8_countWays 21 = .ok (.lconst 0, 1) := by decide +kernel
theorem dX8_countWays_22 : decode cX8_countWays 22 = .ok (.lastore, 1) := by decide +kernel
theorem dX8_countWays_23 : decode cX8_countWays 23 = .ok (.iinc 2 1, 3) := by decide +kernel
theorem dX8_countWays_26 : decode cX8_countWays 26 = .ok (.goto (-24), 3) := by decide +kernel
theorem dX8_countWays_29 : decode cX8_countWays 29 = .ok (.iconst 0, 1) := by decide +kernel
theorem dX8_countWays_30 : decode cX8_countWays 30 = .ok (.istore_n 2, 1) := by decide +kernel
theorem dX8_countWays_31 : decode cX8_countWays 31 = .ok (.iload_n 2, 1) := by decide +kernel
theorem dX8_countWays_32 : decode cX8_countWays 32 = .ok (.aload_n 0, 1) := by decide +kernel
theorem dX8_countWays_33 : decode cX8_countWays 33 = .ok (.getfield 41, 3) := by decide +kernel
theorem dX8_countWays_36 : decode cX8_countWays 36 = .ok (.getfield 131, 3) := by decide +kernel
theorem dX8_countWays_39 : decode cX8_countWays 39 = .ok (.if_icmp .ge 33, 3) := by decide +kernel
theorem dX8_countWays_42 : decode cX8_countWays 42 = .ok (.aload_n 0, 1) := by decide +kernel
theorem dX8_countWays_43 : decode cX8_countWays 43 = .ok (.aload_n 0, 1) := by decide +kernel
theorem dX8_countWays_44 : decode cX8_countWays 44 = .ok (.getfield 18, 3) := by decide +kernel
theorem dX8_countWays_47 : decode cX8_countWays 47 = .ok (.iload_n 1, 1) := by decide +kernel
theorem dX8_countWays_48 : decode cX8_countWays 48 = .ok (.iload_n 2, 1) := by decide +kernel
theorem dX8_countWays_49 : decode cX8_countWays 49 = .ok (.invokevirtual 90, 3) := by decide +kernel
theorem dX8_countWays_52 : decode cX8_countWays 52 = .ok (.aload_n 0, 1) := by decide +kernel
theorem dX8_countWays_53 : decode cX8_countWays 53 = .ok (.getfield 18, 3) := by decide +kernel
theorem dX8_countWays_56 : decode cX8_countWays 56 = .ok (.invokevirtual 97, 3) := by decide +kernel
theorem dX8_countWays_59 : decode cX8_countWays 59 = .ok (.ifCond .le 7, 3) := by decide +kernel
theorem dX8_countWays_62 : decode cX8_countWays 62 = .ok (.aload_n 0, 1) := by decide +kernel
theorem dX8_countWays_63 : decode cX8_countWays 63 = .ok (.invokevirtual 134, 3) := by decide +kernel
theorem dX8_countWays_66 : decode cX8_countWays 66 = .ok (.iinc 2 1, 3) := by decide +kernel
theorem dX8_countWays_69 : decode cX8_countWays 69 = .ok (.goto (-38), 3) := by decide +kernel
theorem dX8_countWays_72 : decode cX8_countWays 72 = .ok (.return_, 1) := by decide +kernel
theorem dX8_joinWaysOfPart_0 : decode cX8_joinWaysOfPart 0 = .ok (.aload_n 0, 1) := by decide +kernel
theorem dX8_joinWaysOfPart_1 : decode cX8_joinWaysOfPart 1 = .ok (.getfield 18, 3) := by decide +kernel
theorem dX8_joinWaysOfPart_4 : decode cX8_joinWaysOfPart 4 = .ok (.getfield 100, 3) := by decide +kernel
theorem dX8_joinWaysOfPart_7 : decode cX8_joinWaysOfPart 7 = .ok (.iconst 0, 1) := by decide +kernel
theorem dX8_joinWaysOfPart_8 : decode cX8_joinWaysOfPart 8 = .ok (.iaload, 1) := by decide +kernel
theorem dX8_joinWaysOfPart_9 : decode cX8_joinWaysOfPart 9 = .ok (.aload_n 0, 1) := by decide +kernel
theorem dX8_joinWaysOfPart_10 : decode cX8_joinWaysOfPart 10 = .ok (.getfield 18, 3) := by decide +kernel
theorem dX8_joinWaysOfPart_13 : decode cX8_joinWaysOfPart 13 = .ok (.getfield 100, 3) := by decide +kernel
theorem dX8_joinWaysOfPart_16 : decode cX8_joinWaysOfPart 16 = .ok (.iconst 1, 1) := by decide +kernel
theorem dX8_joinWaysOfPart_17 : decode cX8_joinWaysOfPart 17 = .ok (.iaload, 1) := by decide +kernel
theorem dX8_joinWaysOfPart_18 : decode cX8_joinWaysOfPart 18 = .ok (.iadd, 1) := by decide +kernel
theorem dX8_joinWaysOfPart_19 : decode cX8_joinWaysOfPart 19 = .ok (.istore_n 1, 1) := by decide +kernel
theorem dX8_joinWaysOfPart_20 : decode cX8_joinWaysOfPart 20 = .ok (.aload_n 0, 1) := by decide +kernel
theorem dX8_joinWaysOfPart_21 : decode cX8_joinWaysOfPart 21 = .ok (.getfield 18, 3) := by decide +kernel
theorem dX8_joinWaysOfPart_24 : decode cX8_joinWaysOfPart 24 = .ok (.invokevirtual 97, 3) := by decide +kernel
theorem dX8_joinWaysOfPart_27 : decode cX8_joinWaysOfPart 27 = .ok (.iload_n 1, 1) := by decide +kernel
theorem dX8_joinWaysOfPart_28 : decode cX8_joinWaysOfPart 28 = .ok (.isub, 1) := by decide +kernel
theorem dX8_joinWaysOfPart_29 : decode cX8_joinWaysOfPart 29 = .ok (.istore_n 2, 1) := by decide +kernel
theorem dX8_joinWaysOfPart_30 : decode cX8_joinWaysOfPart 30 = .ok (.bipush 96, 2) := by decide +kernel
theorem dX8_joinWaysOfPart_32 : decode cX8_joinWaysOfPart 32 = .ok (.istore_n 3, 1) := by decide +kernel
theorem dX8_joinWaysOfPart_33 : decode cX8_joinWaysOfPart 33 = .ok (.iload_n 3, 1) := by decide +kernel
theorem dX8_joinWaysOfPart_34 : decode cX8_joinWaysOfPart 34 = .ok (.ifCond .lt 83, 3) := by decide +kernel
theorem dX8_joinWaysOfPart_37 : decode cX8_joinWaysOfPart 37 = .ok (.lconst 0, 1) := by decide +kernel
theorem dX8_joinWaysOfPart_38 : decode cX8_joinWaysOfPart 38 = .ok (.lstore 4, 2) := by decide +kernel
theorem dX8_joinWaysOfPart_40 : decode cX8_joinWaysOfPart 40 = .ok (.iconst 0, 1) := by decide +kernel
theorem dX8_joinWaysOfPart_41 : decode cX8_joinWaysOfPart 41 = .ok (.istore 6, 2) := by decide +kernel
theorem dX8_joinWaysOfPart_43 : decode cX8_joinWaysOfPart 43 = .ok (.iload 6, 2) := by decide +kernel
theorem dX8_joinWaysOfPart_45 : decode cX8_joinWaysOfPart 45 = .ok (.iload_n 1, 1) := by decide +kernel
theorem dX8_joinWaysOfPart_46 : decode cX8_joinWaysOfPart 46 = .ok (.if_icmp .gt 57, 3) := by decide +kernel
theorem dX8_joinWaysOfPart_49 : decode cX8_joinWaysOfPart 49 = .ok (.iload 6, 2) := by decide +kernel
theorem dX8_joinWaysOfPart_51 : decode cX8_joinWaysOfPart 51 = .ok (.iload_n 3, 1) := by decide +kernel
theorem dX8_joinWaysOfPart_52 : decode cX8_joinWaysOfPart 52 = .ok (.if_icmp .gt 51, 3) := by decide +kernel
theorem dX8_joinWaysOfPart_55 : decode cX8_joinWaysOfPart 55 = .ok (.iload_n 1, 1) := by decide +kernel
theorem dX8_joinWaysOfPart_56 : decode cX8_joinWaysOfPart 56 = .ok (.iload 6, 2) := by decide +kernel
theorem dX8_joinWaysOfPart_58 : decode cX8_joinWaysOfPart 58 = .ok (.invokestatic 137, 3) := by decide +kernel
theorem dX8_joinWaysOfPart_61 : decode cX8_joinWaysOfPart 61 = .ok (.iload_n 2, 1) := by decide +kernel
theorem dX8_joinWaysOfPart_62 : decode cX8_joinWaysOfPart 62 = .ok (.aload_n 0, 1) := by decide +kernel
theorem dX8_joinWaysOfPart_63 : decode cX8_joinWaysOfPart 63 = .ok (.getfield 18, 3) := by decide +kernel
theorem dX8_joinWaysOfPart_66 : decode cX8_joinWaysOfPart 66 = .ok (.getfield 117, 3) := by decide +kernel
theorem dX8_joinWaysOfPart_69 : decode cX8_joinWaysOfPart 69 = .ok (.iconst 1, 1) := by decide +kernel
theorem dX8_joinWaysOfPart_70 : decode cX8_joinWaysOfPart 70 = .ok (.iaload, 1) := by decide +kernel
theorem dX8_joinWaysOfPart_71 : decode cX8_joinWaysOfPart 71 = .ok (.iload 6, 2) := by decide +kernel
theorem dX8_joinWaysOfPart_73 : decode cX8_joinWaysOfPart 73 = .ok (.isub, 1) := by decide +kernel
theorem dX8_joinWaysOfPart_74 : decode cX8_joinWaysOfPart 74 = .ok (.invokestatic 137, 3) := by decide +kernel
theorem dX8_joinWaysOfPart_77 : decode cX8_joinWaysOfPart 77 = .ok (.lmul, 1) := by decide +kernel
theorem dX8_joinWaysOfPart_78 : decode cX8_joinWaysOfPart 78 = .ok (.lstore 7, 2) := by decide +kernel
theorem dX8_joinWaysOfPart_80 : decode cX8_joinWaysOfPart 80 = .ok (.lload 4, 2) := by decide +kernel
theorem dX8_joinWaysOfPart_82 : decode cX8_joinWaysOfPart 82 = .ok (.aload_n 0, 1) := by decide +kernel
theorem dX8_joinWaysOfPart_83 : decode cX8_joinWaysOfPart 83 = .ok (.getfield 24, 3) := by decide +kernel
theorem dX8_joinWaysOfPart_86 : decode cX8_joinWaysOfPart 86 = .ok (.iload_n 3, 1) := by decide +kernel
theorem dX8_joinWaysOfPart_87 : decode cX8_joinWaysOfPart 87 = .ok (.iload 6, 2) := by decide +kernel
theorem dX8_joinWaysOfPart_89 : decode cX8_joinWaysOfPart 89 = .ok (.isub, 1) := by decide +kernel
theorem dX8_joinWaysOfPart_90 : decode cX8_joinWaysOfPart 90 = .ok (.laload, 1) := by decide +kernel
theorem dX8_joinWaysOfPart_91 : decode cX8_joinWaysOfPart 91 = .ok (.lload 7, 2) := by decide +kernel
theorem dX8_joinWaysOfPart_93 : decode cX8_joinWaysOfPart 93 = .ok (.lmul, 1) := by decide +kernel
theorem dX8_joinWaysOfPart_94 : decode cX8_joinWaysOfPart 94 = .ok (.ladd, 1) := by decide +kernel
theorem dX8_joinWaysOfPart_95 : decode cX8_joinWaysOfPart 95 = .ok (.lstore 4, 2) := by decide +kernel
theorem dX8_joinWaysOfPart_97 : decode cX8_joinWaysOfPart 97 = .ok (.iinc 6 1, 3) := by decide +kernel
theorem dX8_joinWaysOfPart_100 : decode cX8_joinWaysOfPart 100 = .ok (.goto (-57), 3) := by decide +kernel
theorem dX8_joinWaysOfPart_103 : decode cX8_joinWaysOfPart 103 = .ok (.aload_n 0, 1) := by decide +kernel
theorem dX8_joinWaysOfPart_104 : decode cX8_joinWaysOfPart 104 = .ok (.getfield 24, 3) := by decide +kernel
theorem dX8_joinWaysOfPart_107 : decode cX8_joinWaysOfPart 107 = .ok (.iload_n 3, 1) := by decide +kernel
theorem dX8_joinWaysOfPart_108 : decode cX8_joinWaysOfPart 108 = .ok (.lload 4, 2) := by decide +kernel
theorem dX8_joinWaysOfPart_110 : decode cX8_joinWaysOfPart 110 = .ok (.lastore, 1) := by decide +kernel
theorem dX8_joinWaysOfPart_111 : decode cX8_joinWaysOfPart 111 = .ok (.iinc 3 (-1), 3) := by decide +kernel
theorem dX8_joinWaysOfPart_114 : decode cX8_joinWaysOfPart 114 = .ok (.goto (-81), 3) := by decide +kernel
theorem dX8_joinWaysOfPart_117 : decode cX8_joinWaysOfPart 117 = .ok (.return_, 1) := by decide +kernel
theorem dX8_tellHeaviest_0 : decode cX8_tellHeaviest 0 = .ok (.aload_n 0, 1) := by decide +kernel
theorem dX8_tellHeaviest_1 : decode cX8_tellHeaviest 1 = .ok (.aload_n 0, 1) := by decide +kernel
theorem dX8_tellHeaviest_2 : decode cX8_tellHeaviest 2 = .ok (.getfield 12, 3) := by decide +kernel
theorem dX8_tellHeaviest_5 : decode cX8_tellHeaviest 5 = .ok (.iconst (-1), 1) := by decide +kernel
theorem dX8_tellHeaviest_6 : decode cX8_tellHeaviest 6 = .ok (.iconst (-1), 1) := by decide +kernel
theorem dX8_tellHeaviest_7 : decode cX8_tellHeaviest 7 = .ok (.invokevirtual 90, 3) := by decide +kernel
theorem dX8_tellHeaviest_10 : decode cX8_tellHeaviest 10 = .ok (.aload_n 0, 1) := by decide +kernel
theorem dX8_tellHeaviest_11 : decode cX8_tellHeaviest 11 = .ok (.getfield 12, 3) := by decide +kernel
theorem dX8_tellHeaviest_14 : decode cX8_tellHeaviest 14 = .ok (.invokevirtual 106, 3) := by decide +kernel
theorem dX8_tellHeaviest_17 : decode cX8_tellHeaviest 17 = .ok (.ifCond .ne 6, 3) := by decide +kernel
theorem dX8_tellHeaviest_20 : decode cX8_tellHeaviest 20 = .ok (.bipush (-2), 2) := by decide +kernel
theorem dX8_tellHeaviest_22 : decode cX8_tellHeaviest 22 = .ok (.ireturn, 1) := by decide +kernel
theorem dX8_tellHeaviest_23 : decode cX8_tellHeaviest 23 = .ok (.iconst (-1), 1) := by decide +kernel
theorem dX8_tellHeaviest_24 : decode cX8_tellHeaviest 24 = .ok (.istore_n 1, 1) := by decide +kernel
theorem dX8_tellHeaviest_25 : decode cX8_tellHeaviest 25 = .ok (.lconst 0, 1) := by decide +kernel
theorem dX8_tellHeaviest_26 : decode cX8_tellHeaviest 26 = .ok (.lstore_n 2, 1) := by decide +kernel
theorem dX8_tellHeaviest_27 : decode cX8_tellHeaviest 27 = .ok (.lconst 1, 1) := by decide +kernel
theorem dX8_tellHeaviest_28 : decode cX8_tellHeaviest 28 = .ok (.lstore 4, 2) := by decide +kernel
theorem dX8_tellHeaviest_30 : decode cX8_tellHeaviest 30 = .ok (.iconst 0, 1) := by decide +kernel
theorem dX8_tellHeaviest_31 : decode cX8_tellHeaviest 31 = .ok (.istore 6, 2) := by decide +kernel
theorem dX8_tellHeaviest_33 : decode cX8_tellHeaviest 33 = .ok (.iload 6, 2) := by decide +kernel
theorem dX8_tellHeaviest_35 : decode cX8_tellHeaviest 35 = .ok (.aload_n 0, 1) := by decide +kernel
theorem dX8_tellHeaviest_36 : decode cX8_tellHeaviest 36 = .ok (.getfield 41, 3) := by decide +kernel
theorem dX8_tellHeaviest_39 : decode cX8_tellHeaviest 39 = .ok (.getfield 131, 3) := by decide +kernel
theorem dX8_tellHeaviest_42 : decode cX8_tellHeaviest 42 = .ok (.if_icmp .ge 153, 3) := by decide +kernel
theorem dX8_tellHeaviest_45 : decode cX8_tellHeaviest 45 = .ok (.aload_n 0, 1) := by decide +kernel
theorem dX8_tellHeaviest_46 : decode cX8_tellHeaviest 46 = .ok (.aload_n 0, 1) := by decide +kernel
theorem dX8_tellHeaviest_47 : decode cX8_tellHeaviest 47 = .ok (.getfield 18, 3) := by decide +kernel
theorem dX8_tellHeaviest_50 : decode cX8_tellHeaviest 50 = .ok (.iconst (-1), 1) := by decide +kernel
theorem dX8_tellHeaviest_51 : decode cX8_tellHeaviest 51 = .ok (.iload 6, 2) := by decide +kernel
theorem dX8_tellHeaviest_53 : decode cX8_tellHeaviest 53 = .ok (.invokevirtual 90, 3) := by decide +kernel
theorem dX8_tellHeaviest_56 : decode cX8_tellHeaviest 56 = .ok (.aload_n 0, 1) := by decide +kernel
theorem dX8_tellHeaviest_57 : decode cX8_tellHeaviest 57 = .ok (.getfield 21, 3) := by decide +kernel
theorem dX8_tellHeaviest_60 : decode cX8_tellHeaviest 60 = .ok (.aload_n 0, 1) := by decide +kernel
theorem dX8_tellHeaviest_61 : decode cX8_tellHeaviest 61 = .ok (.getfield 12, 3) := by decide +kernel
theorem dX8_tellHeaviest_64 : decode cX8_tellHeaviest 64 = .ok (.aload_n 0, 1) := by decide +kernel
theorem dX8_tellHeaviest_65 : decode cX8_tellHeaviest 65 = .ok (.getfield 18, 3) := by decide +kernel
theorem dX8_tellHeaviest_68 : decode cX8_tellHeaviest 68 = .ok (.invokevirtual 141, 3) := by decide +kernel
theorem dX8_tellHeaviest_71 : decode cX8_tellHeaviest 71 = .ok (.aload_n 0, 1) := by decide +kernel
theorem dX8_tellHeaviest_72 : decode cX8_tellHeaviest 72 = .ok (.getfield 18, 3) := by decide +kernel
theorem dX8_tellHeaviest_75 : decode cX8_tellHeaviest 75 = .ok (.invokevirtual 97, 3) := by decide +kernel
theorem dX8_tellHeaviest_78 : decode cX8_tellHeaviest 78 = .ok (.ifCond .eq 111, 3) := by decide +kernel
theorem dX8_tellHeaviest_81 : decode cX8_tellHeaviest 81 = .ok (.aload_n 0, 1) := by decide +kernel
theorem dX8_tellHeaviest_82 : decode cX8_tellHeaviest 82 = .ok (.getfield 21, 3) := by decide +kernel
theorem dX8_tellHeaviest_85 : decode cX8_tellHeaviest 85 = .ok (.invokevirtual 106, 3) := by decide +kernel
theorem dX8_tellHeaviest_88 : decode cX8_tellHeaviest 88 = .ok (.ifCond .ne 6, 3) := by decide +kernel
theorem dX8_tellHeaviest_91 : decode cX8_tellHeaviest 91 = .ok (.goto 98, 3) := by decide +kernel
theorem dX8_tellHeaviest_94 : decode cX8_tellHeaviest 94 = .ok (.aload_n 0, 1) := by decide +kernel
theorem dX8_tellHeaviest_95 : decode cX8_tellHeaviest 95 = .ok (.getfield 12, 3) := by decide +kernel
theorem dX8_tellHeaviest_98 : decode cX8_tellHeaviest 98 = .ok (.invokevirtual 110, 3) := by decide +kernel
theorem dX8_tellHeaviest_101 : decode cX8_tellHeaviest 101 = .ok (.aload_n 0, 1) := by decide +kernel
theorem dX8_tellHeaviest_102 : decode cX8_tellHeaviest 102 = .ok (.getfield 21, 3) := by decide +kernel
theorem dX8_tellHeaviest_105 : decode cX8_tellHeaviest 105 = .ok (.invokevirtual 114, 3) := by decide +kernel
theorem dX8_tellHeaviest_108 : decode cX8_tellHeaviest 108 = .ok (.lmul, 1) := by decide +kernel
theorem dX8_tellHeaviest_109 : decode cX8_tellHeaviest 109 = .ok (.aload_n 0, 1) := by decide +kernel
theorem dX8_tellHeaviest_110 : decode cX8_tellHeaviest 110 = .ok (.getfield 21, 3) := by decide +kernel
theorem dX8_tellHeaviest_113 : decode cX8_tellHeaviest 113 = .ok (.invokevirtual 110, 3) := by decide +kernel
theorem dX8_tellHeaviest_116 : decode cX8_tellHeaviest 116 = .ok (.aload_n 0, 1) := by decide +kernel
theorem dX8_tellHeaviest_117 : decode cX8_tellHeaviest 117 = .ok (.getfield 12, 3) := by decide +kernel
theorem dX8_tellHeaviest_120 : decode cX8_tellHeaviest 120 = .ok (.invokevirtual 114, 3) := by decide +kernel
theorem dX8_tellHeaviest_123 : decode cX8_tellHeaviest 123 = .ok (.lmul, 1) := by decide +kernel
theorem dX8_tellHeaviest_124 : decode cX8_tellHeaviest 124 = .ok (.lsub, 1) := by decide +kernel
theorem dX8_tellHeaviest_125 : decode cX8_tellHeaviest 125 = .ok (.lstore 7, 2) := by decide +kernel
theorem dX8_tellHeaviest_127 : decode cX8_tellHeaviest 127 = .ok (.lload 7, 2) := by decide +kernel
theorem dX8_tellHeaviest_129 : decode cX8_tellHeaviest 129 = .ok (.lconst 0, 1) := by decide +kernel
theorem dX8_tellHeaviest_130 : decode cX8_tellHeaviest 130 = .ok (.lcmp, 1) := by decide +kernel
theorem dX8_tellHeaviest_131 : decode cX8_tellHeaviest 131 = .ok (.ifCond .ge 9, 3) := by decide +kernel
theorem dX8_tellHeaviest_134 : decode cX8_tellHeaviest 134 = .ok (.lload 7, 2) := by decide +kernel
theorem dX8_tellHeaviest_136 : decode cX8_tellHeaviest 136 = .ok (.lneg, 1) := by decide +kernel
theorem dX8_tellHeaviest_137 : decode cX8_tellHeaviest 137 = .ok (.goto 5, 3) := by decide +kernel
theorem dX8_tellHeaviest_140 : decode cX8_tellHeaviest 140 = .ok (.lload 7, 2) := by decide +kernel
theorem dX8_tellHeaviest_142 : decode cX8_tellHeaviest 142 = .ok (.lstore 9, 2) := by decide +kernel
theorem dX8_tellHeaviest_144 : decode cX8_tellHeaviest 144 = .ok (.aload_n 0, 1) := by decide +kernel
theorem dX8_tellHeaviest_145 : decode cX8_tellHeaviest 145 = .ok (.getfield 12, 3) := by decide +kernel
theorem dX8_tellHeaviest_148 : decode cX8_tellHeaviest 148 = .ok (.invokevirtual 114, 3) := by decide +kernel
theorem dX8_tellHeaviest_151 : decode cX8_tellHeaviest 151 = .ok (.aload_n 0, 1) := by decide +kernel
theorem dX8_tellHeaviest_152 : decode cX8_tellHeaviest 152 = .ok (.getfield 21, 3) := by decide +kernel
theorem dX8_tellHeaviest_155 : decode cX8_tellHeaviest 155 = .ok (.invokevirtual 114, 3) := by decide +kernel
theorem dX8_tellHeaviest_158 : decode cX8_tellHeaviest 158 = .ok (.lmul, 1) := by decide +kernel
theorem dX8_tellHeaviest_159 : decode cX8_tellHeaviest 159 = .ok (.lstore 11, 2) := by decide +kernel
theorem dX8_tellHeaviest_161 : decode cX8_tellHeaviest 161 = .ok (.iload_n 1, 1) := by decide +kernel
theorem dX8_tellHeaviest_162 : decode cX8_tellHeaviest 162 = .ok (.iconst (-1), 1) := by decide +kernel
theorem dX8_tellHeaviest_163 : decode cX8_tellHeaviest 163 = .ok (.if_icmp .eq 16, 3) := by decide +kernel
theorem dX8_tellHeaviest_166 : decode cX8_tellHeaviest 166 = .ok (.lload 9, 2) := by decide +kernel
theorem dX8_tellHeaviest_168 : decode cX8_tellHeaviest 168 = .ok (.lload 4, 2) := by decide +kernel
theorem dX8_tellHeaviest_170 : decode cX8_tellHeaviest 170 = .ok (.lmul, 1) := by decide +kernel
theorem dX8_tellHeaviest_171 : decode cX8_tellHeaviest 171 = .ok (.lload_n 2, 1) := by decide +kernel
theorem dX8_tellHeaviest_172 : decode cX8_tellHeaviest 172 = .ok (.lload 11, 2) := by decide +kernel
theorem dX8_tellHeaviest_174 : decode cX8_tellHeaviest 174 = .ok (.lmul, 1) := by decide +kernel
theorem dX8_tellHeaviest_175 : decode cX8_tellHeaviest 175 = .ok (.lcmp, 1) := by decide +kernel
theorem dX8_tellHeaviest_176 : decode cX8_tellHeaviest 176 = .ok (.ifCond .le 13, 3) := by decide +kernel
theorem dX8_tellHeaviest_179 : decode cX8_tellHeaviest 179 = .ok (.iload 6, 2) := by decide +kernel
theorem dX8_tellHeaviest_181 : decode cX8_tellHeaviest 181 = .ok (.istore_n 1, 1) := by decide +kernel
theorem dX8_tellHeaviest_182 : decode cX8_tellHeaviest 182 = .ok (.lload 9, 2) := by decide +kernel
theorem dX8_tellHeaviest_184 : decode cX8_tellHeaviest 184 = .ok (.lstore_n 2, 1) := by decide +kernel
theorem dX8_tellHeaviest_185 : decode cX8_tellHeaviest 185 = .ok (.lload 11, 2) := by decide +kernel
theorem dX8_tellHeaviest_187 : decode cX8_tellHeaviest 187 = .ok (.lstore 4, 2) := by decide +kernel
theorem dX8_tellHeaviest_189 : decode cX8_tellHeaviest 189 = .ok (.iinc 6 1, 3) := by decide +kernel
theorem dX8_tellHeaviest_192 : decode cX8_tellHeaviest 192 = .ok (.goto (-159), 3) := by decide +kernel
theorem dX8_tellHeaviest_195 : decode cX8_tellHeaviest 195 = .ok (.iload_n 1, 1) := by decide +kernel
theorem dX8_tellHeaviest_196 : decode cX8_tellHeaviest 196 = .ok (.iconst (-1), 1) := by decide +kernel
theorem dX8_tellHeaviest_197 : decode cX8_tellHeaviest 197 = .ok (.if_icmp .ne 6, 3) := by decide +kernel
theorem dX8_tellHeaviest_200 : decode cX8_tellHeaviest 200 = .ok (.bipush (-2), 2) := by decide +kernel
theorem dX8_tellHeaviest_202 : decode cX8_tellHeaviest 202 = .ok (.ireturn, 1) := by decide +kernel
theorem dX8_tellHeaviest_203 : decode cX8_tellHeaviest 203 = .ok (.aload_n 0, 1) := by decide +kernel
theorem dX8_tellHeaviest_204 : decode cX8_tellHeaviest 204 = .ok (.aload_n 0, 1) := by decide +kernel
theorem dX8_tellHeaviest_205 : decode cX8_tellHeaviest 205 = .ok (.getfield 18, 3) := by decide +kernel
theorem dX8_tellHeaviest_208 : decode cX8_tellHeaviest 208 = .ok (.iconst (-1), 1) := by decide +kernel
theorem dX8_tellHeaviest_209 : decode cX8_tellHeaviest 209 = .ok (.iload_n 1, 1) := by decide +kernel
theorem dX8_tellHeaviest_210 : decode cX8_tellHeaviest 210 = .ok (.invokevirtual 90, 3) := by decide +kernel
theorem dX8_tellHeaviest_213 : decode cX8_tellHeaviest 213 = .ok (.aload_n 0, 1) := by decide +kernel
theorem dX8_tellHeaviest_214 : decode cX8_tellHeaviest 214 = .ok (.getfield 21, 3) := by decide +kernel
theorem dX8_tellHeaviest_217 : decode cX8_tellHeaviest 217 = .ok (.aload_n 0, 1) := by decide +kernel
theorem dX8_tellHeaviest_218 : decode cX8_tellHeaviest 218 = .ok (.getfield 12, 3) := by decide +kernel
theorem dX8_tellHeaviest_221 : decode cX8_tellHeaviest 221 = .ok (.aload_n 0, 1) := by decide +kernel
theorem dX8_tellHeaviest_222 : decode cX8_tellHeaviest 222 = .ok (.getfield 18, 3) := by decide +kernel
theorem dX8_tellHeaviest_225 : decode cX8_tellHeaviest 225 = .ok (.invokevirtual 141, 3) := by decide +kernel
theorem dX8_tellHeaviest_228 : decode cX8_tellHeaviest 228 = .ok (.aload_n 0, 1) := by decide +kernel
theorem dX8_tellHeaviest_229 : decode cX8_tellHeaviest 229 = .ok (.getfield 45, 3) := by decide +kernel
theorem dX8_tellHeaviest_232 : decode cX8_tellHeaviest 232 = .ok (.invokevirtual 94, 3) := by decide +kernel
theorem dX8_tellHeaviest_235 : decode cX8_tellHeaviest 235 = .ok (.aload_n 0, 1) := by decide +kernel
theorem dX8_tellHeaviest_236 : decode cX8_tellHeaviest 236 = .ok (.getfield 45, 3) := by decide +kernel
theorem dX8_tellHeaviest_239 : decode cX8_tellHeaviest 239 = .ok (.aload_n 0, 1) := by decide +kernel
theorem dX8_tellHeaviest_240 : decode cX8_tellHeaviest 240 = .ok (.getfield 21, 3) := by decide +kernel
theorem dX8_tellHeaviest_243 : decode cX8_tellHeaviest 243 = .ok (.invokevirtual 110, 3) := by decide +kernel
theorem dX8_tellHeaviest_246 : decode cX8_tellHeaviest 246 = .ok (.aload_n 0, 1) := by decide +kernel
theorem dX8_tellHeaviest_247 : decode cX8_tellHeaviest 247 = .ok (.getfield 21, 3) := by decide +kernel
theorem dX8_tellHeaviest_250 : decode cX8_tellHeaviest 250 = .ok (.invokevirtual 114, 3) := by decide +kernel
theorem dX8_tellHeaviest_253 : decode cX8_tellHeaviest 253 = .ok (.invokevirtual 102, 3) := by decide +kernel
theorem dX8_tellHeaviest_256 : decode cX8_tellHeaviest 256 = .ok (.iload_n 1, 1) := by decide +kernel
theorem dX8_tellHeaviest_257 : decode cX8_tellHeaviest 257 = .ok (.ireturn, 1) := by decide +kernel
theorem dX8_gatherNames_0 : decode cX8_gatherNames 0 = .ok (.iconst 0, 1) := by decide +kernel
theorem dX8_gatherNames_1 : decode cX8_gatherNames 1 = .ok (.istore_n 1, 1) := by decide +kernel
theorem dX8_gatherNames_2 : decode cX8_gatherNames 2 = .ok (.iload_n 1, 1) := by decide +kernel
theorem dX8_gatherNames_3 : decode cX8_gatherNames 3 = .ok (.bipush 12, 2) := by decide +kernel
theorem dX8_gatherNames_5 : decode cX8_gatherNames 5 = .ok (.if_icmp .ge 23, 3) := by decide +kernel
theorem dX8_gatherNames_8 : decode cX8_gatherNames 8 = .ok (.aload_n 0, 1) := by decide +kernel
theorem dX8_gatherNames_9 : decode cX8_gatherNames 9 = .ok (.getfield 28, 3) := by decide +kernel
theorem dX8_gatherNames_12 : decode cX8_gatherNames 12 = .ok (.iload_n 1, 1) := by decide +kernel
theorem dX8_gatherNames_13 : decode cX8_gatherNames 13 = .ok (.iconst 0, 1) := by decide +kernel
theorem dX8_gatherNames_14 : decode cX8_gatherNames 14 = .ok (.iastore, 1) := by decide +kernel
theorem dX8_gatherNames_15 : decode cX8_gatherNames 15 = .ok (.aload_n 0, 1) := by decide +kernel
theorem dX8_gatherNames_16 : decode cX8_gatherNames 16 = .ok (.getfield 32, 3) := by decide +kernel
theorem dX8_gatherNames_19 : decode cX8_gatherNames 19 = .ok (.iload_n 1, 1) := by decide +kernel
theorem dX8_gatherNames_20 : decode cX8_gatherNames 20 = .ok (.iconst 0, 1) := by decide +kernel
theorem dX8_gatherNames_21 : decode cX8_gatherNames 21 = .ok (.iastore, 1) := by decide +kernel
theorem dX8_gatherNames_22 : decode cX8_gatherNames 22 = .ok (.iinc 1 1, 3) := by decide +kernel
theorem dX8_gatherNames_25 : decode cX8_gatherNames 25 = .ok (.goto (-23), 3) := by decide +kernel
theorem dX8_gatherNames_28 : decode cX8_gatherNames 28 = .ok (.iconst 0, 1) := by decide +kernel
theorem dX8_gatherNames_29 : decode cX8_gatherNames 29 = .ok (.istore_n 1, 1) := by decide +kernel
theorem dX8_gatherNames_30 : decode cX8_gatherNames 30 = .ok (.iload_n 1, 1) := by decide +kernel
theorem dX8_gatherNames_31 : decode cX8_gatherNames 31 = .ok (.aload_n 0, 1) := by decide +kernel
theorem dX8_gatherNames_32 : decode cX8_gatherNames 32 = .ok (.getfield 41, 3) := by decide +kernel
theorem dX8_gatherNames_35 : decode cX8_gatherNames 35 = .ok (.getfield 52, 3) := by decide +kernel
theorem dX8_gatherNames_38 : decode cX8_gatherNames 38 = .ok (.if_icmp .ge 63, 3) := by decide +kernel
theorem dX8_gatherNames_41 : decode cX8_gatherNames 41 = .ok (.aload_n 0, 1) := by decide +kernel
theorem dX8_gatherNames_42 : decode cX8_gatherNames 42 = .ok (.getfield 41, 3) := by decide +kernel
theorem dX8_gatherNames_45 : decode cX8_gatherNames 45 = .ok (.getfield 58, 3) := by decide +kernel
theorem dX8_gatherNames_48 : decode cX8_gatherNames 48 = .ok (.iload_n 1, 1) := by decide +kernel
theorem dX8_gatherNames_49 : decode cX8_gatherNames 49 = .ok (.aaload, 1) := by decide +kernel
theorem dX8_gatherNames_50 : decode cX8_gatherNames 50 = .ok (.astore_n 2, 1) := by decide +kernel
theorem dX8_gatherNames_51 : decode cX8_gatherNames 51 = .ok (.aload_n 2, 1) := by decide +kernel
theorem dX8_gatherNames_52 : decode cX8_gatherNames 52 = .ok (.getfield 62, 3) := by decide +kernel
theorem dX8_gatherNames_55 : decode cX8_gatherNames 55 = .ok (.ifCond .eq 40, 3) := by decide +kernel
theorem dX8_gatherNames_58 : decode cX8_gatherNames 58 = .ok (.aload_n 0, 1) := by decide +kernel
theorem dX8_gatherNames_59 : decode cX8_gatherNames 59 = .ok (.getfield 28, 3) := by decide +kernel
theorem dX8_gatherNames_62 : decode cX8_gatherNames 62 = .ok (.aload_n 2, 1) := by decide +kernel
theorem dX8_gatherNames_63 : decode cX8_gatherNames 63 = .ok (.getfield 145, 3) := by decide +kernel
theorem dX8_gatherNames_66 : decode cX8_gatherNames 66 = .ok (.dup2, 1) := by decide +kernel
theorem dX8_gatherNames_67 : decode cX8_gatherNames 67 = .ok (.iaload, 1) := by decide +kernel
theorem dX8_gatherNames_68 : decode cX8_gatherNames 68 = .ok (.iconst 1, 1) := by decide +kernel
theorem dX8_gatherNames_69 : decode cX8_gatherNames 69 = .ok (.iadd, 1) := by decide +kernel
theorem dX8_gatherNames_70 : decode cX8_gatherNames 70 = .ok (.iastore, 1) := by decide +kernel
theorem dX8_gatherNames_71 : decode cX8_gatherNames 71 = .ok (.aload_n 0, 1) := by decide +kernel
theorem dX8_gatherNames_72 : decode cX8_gatherNames 72 = .ok (.getfield 32, 3) := by decide +kernel
theorem dX8_gatherNames_75 : decode cX8_gatherNames 75 = .ok (.aload_n 2, 1) := by decide +kernel
theorem dX8_gatherNames_76 : decode cX8_gatherNames 76 = .ok (.getfield 145, 3) := by decide +kernel
theorem dX8_gatherNames_79 : decode cX8_gatherNames 79 = .ok (.dup2, 1) := by decide +kernel
theorem dX8_gatherNames_80 : decode cX8_gatherNames 80 = .ok (.iaload, 1) := by decide +kernel
theorem dX8_gatherNames_81 : decode cX8_gatherNames 81 = .ok (.aload_n 2, 1) := by decide +kernel
theorem dX8_gatherNames_82 : decode cX8_gatherNames 82 = .ok (.getfield 79, 3) := by decide +kernel
theorem dX8_gatherNames_85 : decode cX8_gatherNames 85 = .ok (.ifCond .eq 7, 3) := by decide +kernel
theorem dX8_gatherNames_88 : decode cX8_gatherNames 88 = .ok (.iconst 1, 1) := by decide +kernel
theorem dX8_gatherNames_89 : decode cX8_gatherNames 89 = .ok (.goto 4, 3) := by decide +kernel
theorem dX8_gatherNames_92 : decode cX8_gatherNames 92 = .ok (.iconst 0, 1) := by decide +kernel
theorem dX8_gatherNames_93 : decode cX8_gatherNames 93 = .ok (.iadd, 1) := by decide +kernel
theorem dX8_gatherNames_94 : decode cX8_gatherNames 94 = .ok (.iastore, 1) := by decide +kernel
theorem dX8_gatherNames_95 : decode cX8_gatherNames 95 = .ok (.iinc 1 1, 3) := by decide +kernel
theorem dX8_gatherNames_98 : decode cX8_gatherNames 98 = .ok (.goto (-68), 3) := by decide +kernel
theorem dX8_gatherNames_101 : decode cX8_gatherNames 101 = .ok (.iconst 0, 1) := by decide +kernel
theorem dX8_gatherNames_102 : decode cX8_gatherNames 102 = .ok (.istore_n 1, 1) := by decide +kernel
theorem dX8_gatherNames_103 : decode cX8_gatherNames 103 = .ok (.iconst 0, 1) := by decide +kernel
theorem dX8_gatherNames_104 : decode cX8_gatherNames 104 = .ok (.istore_n 2, 1) := by decide +kernel
theorem dX8_gatherNames_105 : decode cX8_gatherNames 105 = .ok (.iload_n 2, 1) := by decide +kernel
theorem dX8_gatherNames_106 : decode cX8_gatherNames 106 = .ok (.aload_n 0, 1) := by decide +kernel
theorem dX8_gatherNames_107 : decode cX8_gatherNames 107 = .ok (.getfield 41, 3) := by decide +kernel
theorem dX8_gatherNames_110 : decode cX8_gatherNames 110 = .ok (.getfield 148, 3) := by decide +kernel
theorem dX8_gatherNames_113 : decode cX8_gatherNames 113 = .ok (.if_icmp .ge 28, 3) := by decide +kernel
theorem dX8_gatherNames_116 : decode cX8_gatherNames 116 = .ok (.aload_n 0, 1) := by decide +kernel
theorem dX8_gatherNames_117 : decode cX8_gatherNames 117 = .ok (.getfield 28, 3) := by decide +kernel
theorem dX8_gatherNames_120 : decode cX8_gatherNames 120 = .ok (.iload_n 2, 1) := by decide +kernel
theorem dX8_gatherNames_121 : decode cX8_gatherNames 121 = .ok (.iaload, 1) := by decide +kernel
theorem dX8_gatherNames_122 : decode cX8_gatherNames 122 = .ok (.ifCond .le 13, 3) := by decide +kernel
theorem dX8_gatherNames_125 : decode cX8_gatherNames 125 = .ok (.aload_n 0, 1) := by decide +kernel
theorem dX8_gatherNames_126 : decode cX8_gatherNames 126 = .ok (.getfield 35, 3) := by decide +kernel
theorem dX8_gatherNames_129 : decode cX8_gatherNames 129 = .ok (.iload_n 1, 1) := by decide +kernel
theorem dX8_gatherNames_130 : decode cX8_gatherNames 130 = .ok (.iload_n 2, 1) := by decide +kernel
theorem dX8_gatherNames_131 : decode cX8_gatherNames 131 = .ok (.iastore, 1) := by decide +kernel
theorem dX8_gatherNames_132 : decode cX8_gatherNames 132 = .ok (.iinc 1 1, 3) := by decide +kernel
theorem dX8_gatherNames_135 : decode cX8_gatherNames 135 = .ok (.iinc 2 1, 3) := by decide +kernel
theorem dX8_gatherNames_138 : decode cX8_gatherNames 138 = .ok (.goto (-33), 3) := by decide +kernel
theorem dX8_gatherNames_141 : decode cX8_gatherNames 141 = .ok (.iload_n 1, 1) := by decide +kernel
theorem dX8_gatherNames_142 : decode cX8_gatherNames 142 = .ok (.ireturn, 1) := by decide +kernel
theorem dX8_tellName_0 : decode cX8_tellName 0 = .ok (.aload_n 0, 1) := by decide +kernel
theorem dX8_tellName_1 : decode cX8_tellName 1 = .ok (.getfield 41, 3) := by decide +kernel
theorem dX8_tellName_4 : decode cX8_tellName 4 = .ok (.iload_n 1, 1) := by decide +kernel
theorem dX8_tellName_5 : decode cX8_tellName 5 = .ok (.invokevirtual 151, 3) := by decide +kernel
theorem dX8_tellName_8 : decode cX8_tellName 8 = .ok (.ifCond .ne 5, 3) := by decide +kernel
theorem dX8_tellName_11 : decode cX8_tellName 11 = .ok (.iconst (-1), 1) := by decide +kernel
theorem dX8_tellName_12 : decode cX8_tellName 12 = .ok (.ireturn, 1) := by decide +kernel
theorem dX8_tellName_13 : decode cX8_tellName 13 = .ok (.aload_n 0, 1) := by decide +kernel
theorem dX8_tellName_14 : decode cX8_tellName 14 = .ok (.invokevirtual 154, 3) := by decide +kernel
theorem dX8_tellName_17 : decode cX8_tellName 17 = .ok (.pop, 1) := by decide +kernel
theorem dX8_tellName_18 : decode cX8_tellName 18 = .ok (.aload_n 0, 1) := by decide +kernel
theorem dX8_tellName_19 : decode cX8_tellName 19 = .ok (.getfield 45, 3) := by decide +kernel
theorem dX8_tellName_22 : decode cX8_tellName 22 = .ok (.invokevirtual 94, 3) := by decide +kernel
theorem dX8_tellName_25 : decode cX8_tellName 25 = .ok (.aload_n 0, 1) := by decide +kernel
theorem dX8_tellName_26 : decode cX8_tellName 26 = .ok (.getfield 28, 3) := by decide +kernel
theorem dX8_tellName_29 : decode cX8_tellName 29 = .ok (.iload_n 1, 1) := by decide +kernel
theorem dX8_tellName_30 : decode cX8_tellName 30 = .ok (.iaload, 1) := by decide +kernel
theorem dX8_tellName_31 : decode cX8_tellName 31 = .ok (.ifCond .le 24, 3) := by decide +kernel
theorem dX8_tellName_34 : decode cX8_tellName 34 = .ok (.aload_n 0, 1) := by decide +kernel
theorem dX8_tellName_35 : decode cX8_tellName 35 = .ok (.getfield 45, 3) := by decide +kernel
theorem dX8_tellName_38 : decode cX8_tellName 38 = .ok (.aload_n 0, 1) := by decide +kernel
theorem dX8_tellName_39 : decode cX8_tellName 39 = .ok (.getfield 32, 3) := by decide +kernel
theorem dX8_tellName_42 : decode cX8_tellName 42 = .ok (.iload_n 1, 1) := by decide +kernel
theorem dX8_tellName_43 : decode cX8_tellName 43 = .ok (.iaload, 1) := by decide +kernel
theorem dX8_tellName_44 : decode cX8_tellName 44 = .ok (.i2l, 1) := by decide +kernel
theorem dX8_tellName_45 : decode cX8_tellName 45 = .ok (.aload_n 0, 1) := by decide +kernel
theorem dX8_tellName_46 : decode cX8_tellName 46 = .ok (.getfield 28, 3) := by decide +kernel
theorem dX8_tellName_49 : decode cX8_tellName 49 = .ok (.iload_n 1, 1) := by decide +kernel
theorem dX8_tellName_50 : decode cX8_tellName 50 = .ok (.iaload, 1) := by decide +kernel
theorem dX8_tellName_51 : decode cX8_tellName 51 = .ok (.i2l, 1) := by decide +kernel
theorem dX8_tellName_52 : decode cX8_tellName 52 = .ok (.invokevirtual 102, 3) := by decide +kernel
theorem dX8_tellName_55 : decode cX8_tellName 55 = .ok (.aload_n 0, 1) := by decide +kernel
theorem dX8_tellName_56 : decode cX8_tellName 56 = .ok (.getfield 28, 3) := by decide +kernel
theorem dX8_tellName_59 : decode cX8_tellName 59 = .ok (.iload_n 1, 1) := by decide +kernel
theorem dX8_tellName_60 : decode cX8_tellName 60 = .ok (.iaload, 1) := by decide +kernel
theorem dX8_tellName_61 : decode cX8_tellName 61 = .ok (.ireturn, 1) := by decide +kernel
theorem dX8_tellDrawn_0 : decode cX8_tellDrawn 0 = .ok (.aload_n 0, 1) := by decide +kernel
theorem dX8_tellDrawn_1 : decode cX8_tellDrawn 1 = .ok (.invokevirtual 154, 3) := by decide +kernel
theorem dX8_tellDrawn_4 : decode cX8_tellDrawn 4 = .ok (.istore_n 1, 1) := by decide +kernel
theorem dX8_tellDrawn_5 : decode cX8_tellDrawn 5 = .ok (.iload_n 1, 1) := by decide +kernel
theorem dX8_tellDrawn_6 : decode cX8_tellDrawn 6 = .ok (.ifCond .ne 6, 3) := by decide +kernel
theorem dX8_tellDrawn_9 : decode cX8_tellDrawn 9 = .ok (.bipush (-2), 2) := by decide +kernel
theorem dX8_tellDrawn_11 : decode cX8_tellDrawn 11 = .ok (.ireturn, 1) := by decide +kernel
theorem dX8_tellDrawn_12 : decode cX8_tellDrawn 12 = .ok (.aload_n 0, 1) := by decide +kernel
theorem dX8_tellDrawn_13 : decode cX8_tellDrawn 13 = .ok (.iload_n 1, 1) := by decide +kernel
theorem dX8_tellDrawn_14 : decode cX8_tellDrawn 14 = .ok (.invokevirtual 157, 3) := by decide +kernel
theorem dX8_tellDrawn_17 : decode cX8_tellDrawn 17 = .ok (.iconst 0, 1) := by decide +kernel
theorem dX8_tellDrawn_18 : decode cX8_tellDrawn 18 = .ok (.istore_n 2, 1) := by decide +kernel
theorem dX8_tellDrawn_19 : decode cX8_tellDrawn 19 = .ok (.iconst 0, 1) := by decide +kernel
theorem dX8_tellDrawn_20 : decode cX8_tellDrawn 20 = .ok (.istore_n 3, 1) := by decide +kernel
theorem dX8_tellDrawn_21 : decode cX8_tellDrawn 21 = .ok (.iload_n 3, 1) := by decide +kernel
theorem dX8_tellDrawn_22 : decode cX8_tellDrawn 22 = .ok (.iload_n 1, 1) := by decide +kernel
theorem dX8_tellDrawn_23 : decode cX8_tellDrawn 23 = .ok (.if_icmp .ge 28, 3) := by decide +kernel
theorem dX8_tellDrawn_26 : decode cX8_tellDrawn 26 = .ok (.iload_n 2, 1) := by decide +kernel
theorem dX8_tellDrawn_27 : decode cX8_tellDrawn 27 = .ok (.aload_n 0, 1) := by decide +kernel
theorem dX8_tellDrawn_28 : decode cX8_tellDrawn 28 = .ok (.getfield 41, 3) := by decide +kernel
theorem dX8_tellDrawn_31 : decode cX8_tellDrawn 31 = .ok (.getfield 160, 3) := by decide +kernel
theorem dX8_tellDrawn_34 : decode cX8_tellDrawn 34 = .ok (.aload_n 0, 1) := by decide +kernel
theorem dX8_tellDrawn_35 : decode cX8_tellDrawn 35 = .ok (.getfield 35, 3) := by decide +kernel
theorem dX8_tellDrawn_38 : decode cX8_tellDrawn 38 = .ok (.iload_n 3, 1) := by decide +kernel
theorem dX8_tellDrawn_39 : decode cX8_tellDrawn 39 = .ok (.iaload, 1) := by decide +kernel
theorem dX8_tellDrawn_40 : decode cX8_tellDrawn 40 = .ok (.iaload, 1) := by decide +kernel
theorem dX8_tellDrawn_41 : decode cX8_tellDrawn 41 = .ok (.iload_n 3, 1) := by decide +kernel
theorem dX8_tellDrawn_42 : decode cX8_tellDrawn 42 = .ok (.ishl, 1) := by decide +kernel
theorem dX8_tellDrawn_43 : decode cX8_tellDrawn 43 = .ok (.ior, 1) := by decide +kernel
theorem dX8_tellDrawn_44 : decode cX8_tellDrawn 44 = .ok (.istore_n 2, 1) := by decide +kernel
theorem dX8_tellDrawn_45 : decode cX8_tellDrawn 45 = .ok (.iinc 3 1, 3) := by decide +kernel
theorem dX8_tellDrawn_48 : decode cX8_tellDrawn 48 = .ok (.goto (-27), 3) := by decide +kernel
theorem dX8_tellDrawn_51 : decode cX8_tellDrawn 51 = .ok (.iload_n 2, 1) := by decide +kernel
theorem dX8_tellDrawn_52 : decode cX8_tellDrawn 52 = .ok (.invokestatic 163, 3) := by decide +kernel
theorem dX8_tellDrawn_55 : decode cX8_tellDrawn 55 = .ok (.istore_n 3, 1) := by decide +kernel
theorem dX8_tellDrawn_56 : decode cX8_tellDrawn 56 = .ok (.aload_n 0, 1) := by decide +kernel
theorem dX8_tellDrawn_57 : decode cX8_tellDrawn 57 = .ok (.iload_n 2, 1) := by decide +kernel
theorem dX8_tellDrawn_58 : decode cX8_tellDrawn 58 = .ok (.iload_n 1, 1) := by decide +kernel
theorem dX8_tellDrawn_59 : decode cX8_tellDrawn 59 = .ok (.invokevirtual 169, 3) := by decide +kernel
theorem dX8_tellDrawn_62 : decode cX8_tellDrawn 62 = .ok (.lstore 4, 2) := by decide +kernel
theorem dX8_tellDrawn_64 : decode cX8_tellDrawn 64 = .ok (.lconst 0, 1) := by decide +kernel
theorem dX8_tellDrawn_65 : decode cX8_tellDrawn 65 = .ok (.lstore 6, 2) := by decide +kernel
theorem dX8_tellDrawn_67 : decode cX8_tellDrawn 67 = .ok (.iconst 0, 1) := by decide +kernel
theorem dX8_tellDrawn_68 : decode cX8_tellDrawn 68 = .ok (.istore 8, 2) := by decide +kernel
theorem dX8_tellDrawn_70 : decode cX8_tellDrawn 70 = .ok (.iload 8, 2) := by decide +kernel
theorem dX8_tellDrawn_72 : decode cX8_tellDrawn 72 = .ok (.iconst 1, 1) := by decide +kernel
theorem dX8_tellDrawn_73 : decode cX8_tellDrawn 73 = .ok (.iload_n 1, 1) := by decide +kernel
theorem dX8_tellDrawn_74 : decode cX8_tellDrawn 74 = .ok (.ishl, 1) := by decide +kernel
theorem dX8_tellDrawn_75 : decode cX8_tellDrawn 75 = .ok (.if_icmp .ge 37, 3) := by decide +kernel
theorem dX8_tellDrawn_78 : decode cX8_tellDrawn 78 = .ok (.iload 8, 2) := by decide +kernel
theorem dX8_tellDrawn_80 : decode cX8_tellDrawn 80 = .ok (.invokestatic 163, 3) := by decide +kernel
theorem dX8_tellDrawn_83 : decode cX8_tellDrawn 83 = .ok (.iload_n 3, 1) := by decide +kernel
theorem dX8_tellDrawn_84 : decode cX8_tellDrawn 84 = .ok (.if_icmp .ne 22, 3) := by decide +kernel
theorem dX8_tellDrawn_87 : decode cX8_tellDrawn 87 = .ok (.aload_n 0, 1) := by decide +kernel
theorem dX8_tellDrawn_88 : decode cX8_tellDrawn 88 = .ok (.iload 8, 2) := by decide +kernel
theorem dX8_tellDrawn_90 : decode cX8_tellDrawn 90 = .ok (.iload_n 1, 1) := by decide +kernel
theorem dX8_tellDrawn_91 : decode cX8_tellDrawn 91 = .ok (.invokevirtual 169, 3) := by decide +kernel
theorem dX8_tellDrawn_94 : decode cX8_tellDrawn 94 = .ok (.lload 4, 2) := by decide +kernel
theorem dX8_tellDrawn_96 : decode cX8_tellDrawn 96 = .ok (.lcmp, 1) := by decide +kernel
theorem dX8_tellDrawn_97 : decode cX8_tellDrawn 97 = .ok (.ifCond .gt 9, 3) := by decide +kernel
theorem dX8_tellDrawn_100 : decode cX8_tellDrawn 100 = .ok (.lload 6, 2) := by decide +kernel
theorem dX8_tellDrawn_102 : decode cX8_tellDrawn 102 = .ok (.lconst 1, 1) := by decide +kernel
theorem dX8_tellDrawn_103 : decode cX8_tellDrawn 103 = .ok (.ladd, 1) := by decide +kernel
theorem dX8_tellDrawn_104 : decode cX8_tellDrawn 104 = .ok (.lstore 6, 2) := by decide +kernel
theorem dX8_tellDrawn_106 : decode cX8_tellDrawn 106 = .ok (.iinc 8 1, 3) := by decide +kernel
theorem dX8_tellDrawn_109 : decode cX8_tellDrawn 109 = .ok (.goto (-39), 3) := by decide +kernel
theorem dX8_tellDrawn_112 : decode cX8_tellDrawn 112 = .ok (.aload_n 0, 1) := by decide +kernel
theorem dX8_tellDrawn_113 : decode cX8_tellDrawn 113 = .ok (.getfield 45, 3) := by decide +kernel
theorem dX8_tellDrawn_116 : decode cX8_tellDrawn 116 = .ok (.invokevirtual 94, 3) := by decide +kernel
theorem dX8_tellDrawn_119 : decode cX8_tellDrawn 119 = .ok (.aload_n 0, 1) := by decide +kernel
theorem dX8_tellDrawn_120 : decode cX8_tellDrawn 120 = .ok (.getfield 45, 3) := by decide +kernel
theorem dX8_tellDrawn_123 : decode cX8_tellDrawn 123 = .ok (.lload 6, 2) := by decide +kernel
theorem dX8_tellDrawn_125 : decode cX8_tellDrawn 125 = .ok (.iload_n 1, 1) := by decide +kernel
theorem dX8_tellDrawn_126 : decode cX8_tellDrawn 126 = .ok (.iload_n 3, 1) := by decide +kernel
theorem dX8_tellDrawn_127 : decode cX8_tellDrawn 127 = .ok (.invokestatic 137, 3) := by decide +kernel
theorem dX8_tellDrawn_130 : decode cX8_tellDrawn 130 = .ok (.invokevirtual 102, 3) := by decide +kernel
theorem dX8_tellDrawn_133 : decode cX8_tellDrawn 133 = .ok (.iconst 0, 1) := by decide +kernel
theorem dX8_tellDrawn_134 : decode cX8_tellDrawn 134 = .ok (.ireturn, 1) := by decide +kernel
theorem dX8_scaleShares_0 : decode cX8_scaleShares 0 = .ok (.lconst 1, 1) := by decide +kernel
theorem dX8_scaleShares_1 : decode cX8_scaleShares 1 = .ok (.lstore_n 2, 1) := by decide +kernel
theorem dX8_scaleShares_2 : decode cX8_scaleShares 2 = .ok (.iconst 0, 1) := by decide +kernel
theorem dX8_scaleShares_3 : decode cX8_scaleShares 3 = .ok (.istore 4, 2) := by decide +kernel
theorem dX8_scaleShares_5 : decode cX8_scaleShares 5 = .ok (.iload 4, 2) := by decide +kernel
theorem dX8_scaleShares_7 : decode cX8_scaleShares 7 = .ok (.iload_n 1, 1) := by decide +kernel
theorem dX8_scaleShares_8 : decode cX8_scaleShares 8 = .ok (.if_icmp .ge 27, 3) := by decide +kernel
theorem dX8_scaleShares_11 : decode cX8_scaleShares 11 = .ok (.lload_n 2, 1) := by decide +kernel
theorem dX8_scaleShares_12 : decode cX8_scaleShares 12 = .ok (.aload_n 0, 1) := by decide +kernel
theorem dX8_scaleShares_13 : decode cX8_scaleShares 13 = .ok (.getfield 28, 3) := by decide +kernel
theorem dX8_scaleShares_16 : decode cX8_scaleShares 16 = .ok (.aload_n 0, 1) := by decide +kernel
theorem dX8_scaleShares_17 : decode cX8_scaleShares 17 = .ok (.getfield 35, 3) := by decide +kernel
theorem dX8_scaleShares_20 : decode cX8_scaleShares 20 = .ok (.iload 4, 2) := by decide +kernel
theorem dX8_scaleShares_22 : decode cX8_scaleShares 22 = .ok (.iaload, 1) := by decide +kernel
theorem dX8_scaleShares_23 : decode cX8_scaleShares 23 = .ok (.iaload, 1) := by decide +kernel
theorem dX8_scaleShares_24 : decode cX8_scaleShares 24 = .ok (.i2l, 1) := by decide +kernel
theorem dX8_scaleShares_25 : decode cX8_scaleShares 25 = .ok (.invokestatic 172, 3) := by decide +kernel
theorem dX8_scaleShares_28 : decode cX8_scaleShares 28 = .ok (.lstore_n 2, 1) := by decide +kernel
theorem dX8_scaleShares_29 : decode cX8_scaleShares 29 = .ok (.iinc 4 1, 3) := by decide +kernel
theorem dX8_scaleShares_32 : decode cX8_scaleShares 32 = .ok (.goto (-27), 3) := by decide +kernel
theorem dX8_scaleShares_35 : decode cX8_scaleShares 35 = .ok (.iconst 0, 1) := by decide +kernel
theorem dX8_scaleShares_36 : decode cX8_scaleShares 36 = .ok (.istore 4, 2) := by decide +kernel
theorem dX8_scaleShares_38 : decode cX8_scaleShares 38 = .ok (.iload 4, 2) := by decide +kernel
theorem dX8_scaleShares_40 : decode cX8_scaleShares 40 = .ok (.iload_n 1, 1) := by decide +kernel
theorem dX8_scaleShares_41 : decode cX8_scaleShares 41 = .ok (.if_icmp .ge 58, 3) := by decide +kernel
theorem dX8_scaleShares_44 : decode cX8_scaleShares 44 = .ok (.aload_n 0, 1) := by decide +kernel
theorem dX8_scaleShares_45 : decode cX8_scaleShares 45 = .ok (.getfield 28, 3) := by decide +kernel
theorem dX8_scaleShares_48 : decode cX8_scaleShares 48 = .ok (.aload_n 0, 1) := by decide +kernel
theorem dX8_scaleShares_49 : decode cX8_scaleShares 49 = .ok (.getfield 35, 3) := by decide +kernel
theorem dX8_scaleShares_52 : decode cX8_scaleShares 52 = .ok (.iload 4, 2) := by decide +kernel
theorem dX8_scaleShares_54 : decode cX8_scaleShares 54 = .ok (.iaload, 1) := by decide +kernel
theorem dX8_scaleShares_55 : decode cX8_scaleShares 55 = .ok (.iaload, 1) := by decide +kernel
theorem dX8_scaleShares_56 : decode cX8_scaleShares 56 = .ok (.istore 5, 2) := by decide +kernel
theorem dX8_scaleShares_58 : decode cX8_scaleShares 58 = .ok (.aload_n 0, 1) := by decide +kernel
theorem dX8_scaleShares_59 : decode cX8_scaleShares 59 = .ok (.getfield 38, 3) := by decide +kernel
theorem dX8_scaleShares_62 : decode cX8_scaleShares 62 = .ok (.iload 4, 2) := by decide +kernel
theorem dX8_scaleShares_64 : decode cX8_scaleShares 64 = .ok (.iload 5, 2) := by decide +kernel
theorem dX8_scaleShares_66 : decode cX8_scaleShares 66 = .ok (.ifCond .le 25, 3) := by decide +kernel
theorem dX8_scaleShares_69 : decode cX8_scaleShares 69 = .ok (.aload_n 0, 1) := by decide +kernel
theorem dX8_scaleShares_70 : decode cX8_scaleShares 70 = .ok (.getfield 32, 3) := by decide +kernel
theorem dX8_scaleShares_73 : decode cX8_scaleShares 73 = .ok (.aload_n 0, 1) := by decide +kernel
theorem dX8_scaleShares_74 : decode cX8_scaleShares 74 = .ok (.getfield 35, 3) := by decide +kernel
theorem dX8_scaleShares_77 : decode cX8_scaleShares 77 = .ok (.iload 4, 2) := by decide +kernel
theorem dX8_scaleShares_79 : decode cX8_scaleShares 79 = .ok (.iaload, 1) := by decide +kernel
theorem dX8_scaleShares_80 : decode cX8_scaleShares 80 = .ok (.iaload, 1) := by decide +kernel
theorem dX8_scaleShares_81 : decode cX8_scaleShares 81 = .ok (.i2l, 1) := by decide +kernel
theorem dX8_scaleShares_82 : decode cX8_scaleShares 82 = .ok (.lload_n 2, 1) := by decide +kernel
theorem dX8_scaleShares_83 : decode cX8_scaleShares 83 = .ok (.iload 5, 2) := by decide +kernel
theorem dX8_scaleShares_85 : decode cX8_scaleShares 85 = .ok (.i2l, 1) := by decide +kernel
theorem dX8_scaleShares_86 : decode cX8_scaleShares 86 = .ok (.ldiv, 1) := by decide +kernel
theorem dX8_scaleShares_87 : decode cX8_scaleShares 87 = .ok (.lmul, 1) := by decide +kernel
theorem dX8_scaleShares_88 : decode cX8_scaleShares 88 = .ok (.goto 4, 3) := by decide +kernel
theorem dX8_scaleShares_91 : decode cX8_scaleShares 91 = .ok (.lconst 0, 1) := by decide +kernel
theorem dX8_scaleShares_92 : decode cX8_scaleShares 92 = .ok (.lastore, 1) := by decide +kernel
theorem dX8_scaleShares_93 : decode cX8_scaleShares 93 = .ok (.iinc 4 1, 3) := by decide +kernel
theorem dX8_scaleShares_96 : decode cX8_scaleShares 96 = .ok (.goto (-58), 3) := by decide +kernel
theorem dX8_scaleShares_99 : decode cX8_scaleShares 99 = .ok (.return_, 1) := by decide +kernel
theorem dX8_sumOfShares_0 : decode cX8_sumOfShares 0 = .ok (.lconst 0, 1) := by decide +kernel
theorem dX8_sumOfShares_1 : decode cX8_sumOfShares 1 = .ok (.lstore_n 3, 1) := by decide +kernel
theorem dX8_sumOfShares_2 : decode cX8_sumOfShares 2 = .ok (.iconst 0, 1) := by decide +kernel
theorem dX8_sumOfShares_3 : decode cX8_sumOfShares 3 = .ok (.istore 5, 2) := by decide +kernel
theorem dX8_sumOfShares_5 : decode cX8_sumOfShares 5 = .ok (.iload 5, 2) := by decide +kernel
theorem dX8_sumOfShares_7 : decode cX8_sumOfShares 7 = .ok (.iload_n 2, 1) := by decide +kernel
theorem dX8_sumOfShares_8 : decode cX8_sumOfShares 8 = .ok (.if_icmp .ge 33, 3) := by decide +kernel
theorem dX8_sumOfShares_11 : decode cX8_sumOfShares 11 = .ok (.lload_n 3, 1) := by decide +kernel
theorem dX8_sumOfShares_12 : decode cX8_sumOfShares 12 = .ok (.iload_n 1, 1) := by decide +kernel
theorem dX8_sumOfShares_13 : decode cX8_sumOfShares 13 = .ok (.iload 5, 2) := by decide +kernel
theorem dX8_sumOfShares_15 : decode cX8_sumOfShares 15 = .ok (.ishr, 1) := by decide +kernel
theorem dX8_sumOfShares_16 : decode cX8_sumOfShares 16 = .ok (.iconst 1, 1) := by decide +kernel
theorem dX8_sumOfShares_17 : decode cX8_sumOfShares 17 = .ok (.iand, 1) := by decide +kernel
theorem dX8_sumOfShares_18 : decode cX8_sumOfShares 18 = .ok (.iconst 1, 1) := by decide +kernel
theorem dX8_sumOfShares_19 : decode cX8_sumOfShares 19 = .ok (.if_icmp .ne 13, 3) := by decide +kernel
theorem dX8_sumOfShares_22 : decode cX8_sumOfShares 22 = .ok (.aload_n 0, 1) := by decide +kernel
theorem dX8_sumOfShares_23 : decode cX8_sumOfShares 23 = .ok (.getfield 38, 3) := by decide +kernel
theorem dX8_sumOfShares_26 : decode cX8_sumOfShares 26 = .ok (.iload 5, 2) := by decide +kernel
theorem dX8_sumOfShares_28 : decode cX8_sumOfShares 28 = .ok (.laload, 1) := by decide +kernel
theorem dX8_sumOfShares_29 : decode cX8_sumOfShares 29 = .ok (.goto 4, 3) := by decide +kernel
theorem dX8_sumOfShares_32 : decode cX8_sumOfShares 32 = .ok (.lconst 0, 1) := by decide +kernel
theorem dX8_sumOfShares_33 : decode cX8_sumOfShares 33 = .ok (.ladd, 1) := by decide +kernel
theorem dX8_sumOfShares_34 : decode cX8_sumOfShares 34 = .ok (.lstore_n 3, 1) := by decide +kernel
theorem dX8_sumOfShares_35 : decode cX8_sumOfShares 35 = .ok (.iinc 5 1, 3) := by decide +kernel
theorem dX8_sumOfShares_38 : decode cX8_sumOfShares 38 = .ok (.goto (-33), 3) := by decide +kernel
theorem dX8_sumOfShares_41 : decode cX8_sumOfShares 41 = .ok (.lload_n 3, 1) := by decide +kernel
theorem dX8_sumOfShares_42 : decode cX8_sumOfShares 42 = .ok (.lreturn, 1) := by decide +kernel
theorem dX8_compareShares_0 : decode cX8_compareShares 0 = .ok (.aload_n 0, 1) := by decide +kernel
theorem dX8_compareShares_1 : decode cX8_compareShares 1 = .ok (.getfield 32, 3) := by decide +kernel
theorem dX8_compareShares_4 : decode cX8_compareShares 4 = .ok (.iload_n 1, 1) := by decide +kernel
theorem dX8_compareShares_5 : decode cX8_compareShares 5 = .ok (.iaload, 1) := by decide +kernel
theorem dX8_compareShares_6 : decode cX8_compareShares 6 = .ok (.aload_n 0, 1) := by decide +kernel
theorem dX8_compareShares_7 : decode cX8_compareShares 7 = .ok (.getfield 28, 3) := by decide +kernel
theorem dX8_compareShares_10 : decode cX8_compareShares 10 = .ok (.iload_n 2, 1) := by decide +kernel
theorem dX8_compareShares_11 : decode cX8_compareShares 11 = .ok (.iaload, 1) := by decide +kernel
theorem dX8_compareShares_12 : decode cX8_compareShares 12 = .ok (.imul, 1) := by decide +kernel
theorem dX8_compareShares_13 : decode cX8_compareShares 13 = .ok (.aload_n 0, 1) := by decide +kernel
theorem dX8_compareShares_14 : decode cX8_compareShares 14 = .ok (.getfield 32, 3) := by decide +kernel
theorem dX8_compareShares_17 : decode cX8_compareShares 17 = .ok (.iload_n 2, 1) := by decide +kernel
theorem dX8_compareShares_18 : decode cX8_compareShares 18 = .ok (.iaload, 1) := by decide +kernel
theorem dX8_compareShares_19 : decode cX8_compareShares 19 = .ok (.aload_n 0, 1) := by decide +kernel
theorem dX8_compareShares_20 : decode cX8_compareShares 20 = .ok (.getfield 28, 3) := by decide +kernel
theorem dX8_compareShares_23 : decode cX8_compareShares 23 = .ok (.iload_n 1, 1) := by decide +kernel
theorem dX8_compareShares_24 : decode cX8_compareShares 24 = .ok (.iaload, 1) := by decide +kernel
theorem dX8_compareShares_25 : decode cX8_compareShares 25 = .ok (.imul, 1) := by decide +kernel
theorem dX8_compareShares_26 : decode cX8_compareShares 26 = .ok (.invokestatic 176, 3) := by decide +kernel
theorem dX8_compareShares_29 : decode cX8_compareShares 29 = .ok (.ireturn, 1) := by decide +kernel
theorem dX8_compareBy_0 : decode cX8_compareBy 0 = .ok (.iload_n 1, 1) := by decide +kernel
theorem dX8_compareBy_1 : decode cX8_compareBy 1 = .ok (.tableswitch 93 0 2 #[27, 49, 71], 27) := by decide +kernel
theorem dX8_compareBy_28 : decode cX8_compareBy 28 = .ok (.aload_n 0, 1) := by decide +kernel
theorem dX8_compareBy_29 : decode cX8_compareBy 29 = .ok (.getfield 41, 3) := by decide +kernel
theorem dX8_compareBy_32 : decode cX8_compareBy 32 = .ok (.getfield 160, 3) := by decide +kernel
theorem dX8_compareBy_35 : decode cX8_compareBy 35 = .ok (.iload_n 2, 1) := by decide +kernel
theorem dX8_compareBy_36 : decode cX8_compareBy 36 = .ok (.iaload, 1) := by decide +kernel
theorem dX8_compareBy_37 : decode cX8_compareBy 37 = .ok (.aload_n 0, 1) := by decide +kernel
theorem dX8_compareBy_38 : decode cX8_compareBy 38 = .ok (.getfield 41, 3) := by decide +kernel
theorem dX8_compareBy_41 : decode cX8_compareBy 41 = .ok (.getfield 160, 3) := by decide +kernel
theorem dX8_compareBy_44 : decode cX8_compareBy 44 = .ok (.iload_n 3, 1) := by decide +kernel
theorem dX8_compareBy_45 : decode cX8_compareBy 45 = .ok (.iaload, 1) := by decide +kernel
theorem dX8_compareBy_46 : decode cX8_compareBy 46 = .ok (.invokestatic 176, 3) := by decide +kernel
theorem dX8_compareBy_49 : decode cX8_compareBy 49 = .ok (.ireturn, 1) := by decide +kernel
theorem dX8_compareBy_50 : decode cX8_compareBy 50 = .ok (.aload_n 0, 1) := by decide +kernel
theorem dX8_compareBy_51 : decode cX8_compareBy 51 = .ok (.getfield 41, 3) := by decide +kernel
theorem dX8_compareBy_54 : decode cX8_compareBy 54 = .ok (.getfield 180, 3) := by decide +kernel
theorem dX8_compareBy_57 : decode cX8_compareBy 57 = .ok (.iload_n 2, 1) := by decide +kernel
theorem dX8_compareBy_58 : decode cX8_compareBy 58 = .ok (.iaload, 1) := by decide +kernel
theorem dX8_compareBy_59 : decode cX8_compareBy 59 = .ok (.aload_n 0, 1) := by decide +kernel
theorem dX8_compareBy_60 : decode cX8_compareBy 60 = .ok (.getfield 41, 3) := by decide +kernel
theorem dX8_compareBy_63 : decode cX8_compareBy 63 = .ok (.getfield 180, 3) := by decide +kernel
theorem dX8_compareBy_66 : decode cX8_compareBy 66 = .ok (.iload_n 3, 1) := by decide +kernel
theorem dX8_compareBy_67 : decode cX8_compareBy 67 = .ok (.iaload, 1) := by decide +kernel
theorem dX8_compareBy_68 : decode cX8_compareBy 68 = .ok (.invokestatic 176, 3) := by decide +kernel
theorem dX8_compareBy_71 : decode cX8_compareBy 71 = .ok (.ireturn, 1) := by decide +kernel
theorem dX8_compareBy_72 : decode cX8_compareBy 72 = .ok (.aload_n 0, 1) := by decide +kernel
theorem dX8_compareBy_73 : decode cX8_compareBy 73 = .ok (.getfield 41, 3) := by decide +kernel
theorem dX8_compareBy_76 : decode cX8_compareBy 76 = .ok (.getfield 183, 3) := by decide +kernel
theorem dX8_compareBy_79 : decode cX8_compareBy 79 = .ok (.iload_n 2, 1) := by decide +kernel
theorem dX8_compareBy_80 : decode cX8_compareBy 80 = .ok (.iaload, 1) := by decide +kernel
theorem dX8_compareBy_81 : decode cX8_compareBy 81 = .ok (.aload_n 0, 1) := by decide +kernel
theorem dX8_compareBy_82 : decode cX8_compareBy 82 = .ok (.getfield 41, 3) := by decide +kernel
theorem dX8_compareBy_85 : decode cX8_compareBy 85 = .ok (.getfield 183, 3) := by decide +kernel
theorem dX8_compareBy_88 : decode cX8_compareBy 88 = .ok (.iload_n 3, 1) := by decide +kernel
theorem dX8_compareBy_89 : decode cX8_compareBy 89 = .ok (.iaload, 1) := by decide +kernel
theorem dX8_compareBy_90 : decode cX8_compareBy 90 = .ok (.invokestatic 176, 3) := by decide +kernel
theorem dX8_compareBy_93 : decode cX8_compareBy 93 = .ok (.ireturn, 1) := by decide +kernel
theorem dX8_compareBy_94 : decode cX8_compareBy 94 = .ok (.aload_n 0, 1) := by decide +kernel
theorem dX8_compareBy_95 : decode cX8_compareBy 95 = .ok (.getfield 41, 3) := by decide +kernel
theorem dX8_compareBy_98 : decode cX8_compareBy 98 = .ok (.getfield 186, 3) := by decide +kernel
theorem dX8_compareBy_101 : decode cX8_compareBy 101 = .ok (.iload_n 2, 1) := by decide +kernel
theorem dX8_compareBy_102 : decode cX8_compareBy 102 = .ok (.iaload, 1) := by decide +kernel
theorem dX8_compareBy_103 : decode cX8_compareBy 103 = .ok (.aload_n 0, 1) := by decide +kernel
theorem dX8_compareBy_104 : decode cX8_compareBy 104 = .ok (.getfield 41, 3) := by decide +kernel
theorem dX8_compareBy_107 : decode cX8_compareBy 107 = .ok (.getfield 186, 3) := by decide +kernel
theorem dX8_compareBy_110 : decode cX8_compareBy 110 = .ok (.iload_n 3, 1) := by decide +kernel
theorem dX8_compareBy_111 : decode cX8_compareBy 111 = .ok (.iaload, 1) := by decide +kernel
theorem dX8_compareBy_112 : decode cX8_compareBy 112 = .ok (.invokestatic 176, 3) := by decide +kernel
theorem dX8_compareBy_115 : decode cX8_compareBy 115 = .ok (.ireturn, 1) := by decide +kernel
theorem dX8_pairsGoing_0 : decode cX8_pairsGoing 0 = .ok (.iconst 0, 1) := by decide +kernel
theorem dX8_pairsGoing_1 : decode cX8_pairsGoing 1 = .ok (.istore 4, 2) := by decide +kernel
theorem dX8_pairsGoing_3 : decode cX8_pairsGoing 3 = .ok (.iconst 0, 1) := by decide +kernel
theorem dX8_pairsGoing_4 : decode cX8_pairsGoing 4 = .ok (.istore 5, 2) := by decide +kernel
theorem dX8_pairsGoing_6 : decode cX8_pairsGoing 6 = .ok (.iload 5, 2) := by decide +kernel
theorem dX8_pairsGoing_8 : decode cX8_pairsGoing 8 = .ok (.iload_n 3, 1) := by decide +kernel
theorem dX8_pairsGoing_9 : decode cX8_pairsGoing 9 = .ok (.if_icmp .ge 85, 3) := by decide +kernel
theorem dX8_pairsGoing_12 : decode cX8_pairsGoing 12 = .ok (.iconst 0, 1) := by decide +kernel
theorem dX8_pairsGoing_13 : decode cX8_pairsGoing 13 = .ok (.istore 6, 2) := by decide +kernel
theorem dX8_pairsGoing_15 : decode cX8_pairsGoing 15 = .ok (.iload 6, 2) := by decide +kernel
theorem dX8_pairsGoing_17 : decode cX8_pairsGoing 17 = .ok (.iload 5, 2) := by decide +kernel
theorem dX8_pairsGoing_19 : decode cX8_pairsGoing 19 = .ok (.if_icmp .ge 69, 3) := by decide +kernel
theorem dX8_pairsGoing_22 : decode cX8_pairsGoing 22 = .ok (.aload_n 0, 1) := by decide +kernel
theorem dX8_pairsGoing_23 : decode cX8_pairsGoing 23 = .ok (.iload_n 1, 1) := by decide +kernel
theorem dX8_pairsGoing_24 : decode cX8_pairsGoing 24 = .ok (.aload_n 0, 1) := by decide +kernel
theorem dX8_pairsGoing_25 : decode cX8_pairsGoing 25 = .ok (.getfield 35, 3) := by decide +kernel
theorem dX8_pairsGoing_28 : decode cX8_pairsGoing 28 = .ok (.iload 5, 2) := by decide +kernel
theorem dX8_pairsGoing_30 : decode cX8_pairsGoing 30 = .ok (.iaload, 1) := by decide +kernel
theorem dX8_pairsGoing_31 : decode cX8_pairsGoing 31 = .ok (.aload_n 0, 1) := by decide +kernel
theorem dX8_pairsGoing_32 : decode cX8_pairsGoing 32 = .ok (.getfield 35, 3) := by decide +kernel
theorem dX8_pairsGoing_35 : decode cX8_pairsGoing 35 = .ok (.iload 6, 2) := by decide +kernel
theorem dX8_pairsGoing_37 : decode cX8_pairsGoing 37 = .ok (.iaload, 1) := by decide +kernel
theorem dX8_pairsGoing_38 : decode cX8_pairsGoing 38 = .ok (.invokevirtual 189, 3) := by decide +kernel
theorem dX8_pairsGoing_41 : decode cX8_pairsGoing 41 = .ok (.aload_n 0, 1) := by decide +kernel
theorem dX8_pairsGoing_42 : decode cX8_pairsGoing 42 = .ok (.aload_n 0, 1) := by decide +kernel
theorem dX8_pairsGoing_43 : decode cX8_pairsGoing 43 = .ok (.getfield 35, 3) := by decide +kernel
theorem dX8_pairsGoing_46 : decode cX8_pairsGoing 46 = .ok (.iload 5, 2) := by decide +kernel
theorem dX8_pairsGoing_48 : decode cX8_pairsGoing 48 = .ok (.iaload, 1) := by decide +kernel
theorem dX8_pairsGoing_49 : decode cX8_pairsGoing 49 = .ok (.aload_n 0, 1) := by decide +kernel
theorem dX8_pairsGoing_50 : decode cX8_pairsGoing 50 = .ok (.getfield 35, 3) := by decide +kernel
theorem dX8_pairsGoing_53 : decode cX8_pairsGoing 53 = .ok (.iload 6, 2) := by decide +kernel
theorem dX8_pairsGoing_55 : decode cX8_pairsGoing 55 = .ok (.iaload, 1) := by decide +kernel
theorem dX8_pairsGoing_56 : decode cX8_pairsGoing 56 = .ok (.invokevirtual 193, 3) := by decide +kernel
theorem dX8_pairsGoing_59 : decode cX8_pairsGoing 59 = .ok (.imul, 1) := by decide +kernel
theorem dX8_pairsGoing_60 : decode cX8_pairsGoing 60 = .ok (.istore 7, 2) := by decide +kernel
theorem dX8_pairsGoing_62 : decode cX8_pairsGoing 62 = .ok (.iload 4, 2) := by decide +kernel
theorem dX8_pairsGoing_64 : decode cX8_pairsGoing 64 = .ok (.iload 7, 2) := by decide +kernel
theorem dX8_pairsGoing_66 : decode cX8_pairsGoing 66 = .ok (.iconst 0, 1) := by decide +kernel
theorem dX8_pairsGoing_67 : decode cX8_pairsGoing 67 = .ok (.invokestatic 176, 3) := by decide +kernel
theorem dX8_pairsGoing_70 : decode cX8_pairsGoing 70 = .ok (.iload_n 2, 1) := by decide +kernel
theorem dX8_pairsGoing_71 : decode cX8_pairsGoing 71 = .ok (.if_icmp .ne 7, 3) := by decide +kernel
theorem dX8_pairsGoing_74 : decode cX8_pairsGoing 74 = .ok (.iconst 1, 1) := by decide +kernel
theorem dX8_pairsGoing_75 : decode cX8_pairsGoing 75 = .ok (.goto 4, 3) := by decide +kernel
theorem dX8_pairsGoing_78 : decode cX8_pairsGoing 78 = .ok (.iconst 0, 1) := by decide +kernel
theorem dX8_pairsGoing_79 : decode cX8_pairsGoing 79 = .ok (.iadd, 1) := by decide +kernel
theorem dX8_pairsGoing_80 : decode cX8_pairsGoing 80 = .ok (.istore 4, 2) := by decide +kernel
theorem dX8_pairsGoing_82 : decode cX8_pairsGoing 82 = .ok (.iinc 6 1, 3) := by decide +kernel
theorem dX8_pairsGoing_85 : decode cX8_pairsGoing 85 = .ok (.goto (-70), 3) := by decide +kernel
theorem dX8_pairsGoing_88 : decode cX8_pairsGoing 88 = .ok (.iinc 5 1, 3) := by decide +kernel
theorem dX8_pairsGoing_91 : decode cX8_pairsGoing 91 = .ok (.goto (-85), 3) := by decide +kernel
theorem dX8_pairsGoing_94 : decode cX8_pairsGoing 94 = .ok (.iload 4, 2) := by decide +kernel
theorem dX8_pairsGoing_96 : decode cX8_pairsGoing 96 = .ok (.ireturn, 1) := by decide +kernel
theorem dX8_tellGoing_0 : decode cX8_tellGoing 0 = .ok (.iload_n 1, 1) := by decide +kernel
theorem dX8_tellGoing_1 : decode cX8_tellGoing 1 = .ok (.iconst 0, 1) := by decide +kernel
theorem dX8_tellGoing_2 : decode cX8_tellGoing 2 = .ok (.iconst 3, 1) := by decide +kernel
theorem dX8_tellGoing_3 : decode cX8_tellGoing 3 = .ok (.invokestatic 123, 3) := by decide +kernel
theorem dX8_tellGoing_6 : decode cX8_tellGoing 6 = .ok (.ifCond .ne 5, 3) := by decide +kernel
theorem dX8_tellGoing_9 : decode cX8_tellGoing 9 = .ok (.iconst (-1), 1) := by decide +kernel
theorem dX8_tellGoing_10 : decode cX8_tellGoing 10 = .ok (.ireturn, 1) := by decide +kernel
theorem dX8_tellGoing_11 : decode cX8_tellGoing 11 = .ok (.aload_n 0, 1) := by decide +kernel
theorem dX8_tellGoing_12 : decode cX8_tellGoing 12 = .ok (.invokevirtual 154, 3) := by decide +kernel
theorem dX8_tellGoing_15 : decode cX8_tellGoing 15 = .ok (.istore_n 2, 1) := by decide +kernel
theorem dX8_tellGoing_16 : decode cX8_tellGoing 16 = .ok (.aload_n 0, 1) := by decide +kernel
theorem dX8_tellGoing_17 : decode cX8_tellGoing 17 = .ok (.getfield 45, 3) := by decide +kernel
theorem dX8_tellGoing_20 : decode cX8_tellGoing 20 = .ok (.invokevirtual 94, 3) := by decide +kernel
theorem dX8_tellGoing_23 : decode cX8_tellGoing 23 = .ok (.aload_n 0, 1) := by decide +kernel
theorem dX8_tellGoing_24 : decode cX8_tellGoing 24 = .ok (.getfield 45, 3) := by decide +kernel
theorem dX8_tellGoing_27 : decode cX8_tellGoing 27 = .ok (.aload_n 0, 1) := by decide +kernel
theorem dX8_tellGoing_28 : decode cX8_tellGoing 28 = .ok (.iload_n 1, 1) := by decide +kernel
theorem dX8_tellGoing_29 : decode cX8_tellGoing 29 = .ok (.iconst (-1), 1) := by decide +kernel
theorem dX8_tellGoing_30 : decode cX8_tellGoing 30 = .ok (.iload_n 2, 1) := by decide +kernel
theorem dX8_tellGoing_31 : decode cX8_tellGoing 31 = .ok (.invokevirtual 196, 3) := by decide +kernel
theorem dX8_tellGoing_34 : decode cX8_tellGoing 34 = .ok (.i2l, 1) := by decide +kernel
theorem dX8_tellGoing_35 : decode cX8_tellGoing 35 = .ok (.invokevirtual 119, 3) := by decide +kernel
theorem dX8_tellGoing_38 : decode cX8_tellGoing 38 = .ok (.aload_n 0, 1) := by decide +kernel
theorem dX8_tellGoing_39 : decode cX8_tellGoing 39 = .ok (.getfield 45, 3) := by decide +kernel
theorem dX8_tellGoing_42 : decode cX8_tellGoing 42 = .ok (.aload_n 0, 1) := by decide +kernel
theorem dX8_tellGoing_43 : decode cX8_tellGoing 43 = .ok (.iload_n 1, 1) := by decide +kernel
theorem dX8_tellGoing_44 : decode cX8_tellGoing 44 = .ok (.iconst 0, 1) := by decide +kernel
theorem dX8_tellGoing_45 : decode cX8_tellGoing 45 = .ok (.iload_n 2, 1) := by decide +kernel
theorem dX8_tellGoing_46 : decode cX8_tellGoing 46 = .ok (.invokevirtual 196, 3) := by decide +kernel
theorem dX8_tellGoing_49 : decode cX8_tellGoing 49 = .ok (.i2l, 1) := by decide +kernel
theorem dX8_tellGoing_50 : decode cX8_tellGoing 50 = .ok (.invokevirtual 119, 3) := by decide +kernel
theorem dX8_tellGoing_53 : decode cX8_tellGoing 53 = .ok (.aload_n 0, 1) := by decide +kernel
theorem dX8_tellGoing_54 : decode cX8_tellGoing 54 = .ok (.iload_n 1, 1) := by decide +kernel
theorem dX8_tellGoing_55 : decode cX8_tellGoing 55 = .ok (.iconst 1, 1) := by decide +kernel
theorem dX8_tellGoing_56 : decode cX8_tellGoing 56 = .ok (.iload_n 2, 1) := by decide +kernel
theorem dX8_tellGoing_57 : decode cX8_tellGoing 57 = .ok (.invokevirtual 196, 3) := by decide +kernel
theorem dX8_tellGoing_60 : decode cX8_tellGoing 60 = .ok (.ireturn, 1) := by decide +kernel
theorem dX8_tellSaid_0 : decode cX8_tellSaid 0 = .ok (.aload_n 0, 1) := by decide +kernel
theorem dX8_tellSaid_1 : decode cX8_tellSaid 1 = .ok (.invokevirtual 154, 3) := by decide +kernel
theorem dX8_tellSaid_4 : decode cX8_tellSaid 4 = .ok (.istore_n 1, 1) := by decide +kernel
theorem dX8_tellSaid_5 : decode cX8_tellSaid 5 = .ok (.iconst 0, 1) := by decide +kernel
theorem dX8_tellSaid_6 : decode cX8_tellSaid 6 = .ok (.istore_n 2, 1) := by decide +kernel
theorem dX8_tellSaid_7 : decode cX8_tellSaid 7 = .ok (.iconst 0, 1) := by decide +kernel
theorem dX8_tellSaid_8 : decode cX8_tellSaid 8 = .ok (.istore_n 3, 1) := by decide +kernel
theorem dX8_tellSaid_9 : decode cX8_tellSaid 9 = .ok (.iconst 0, 1) := by decide +kernel
theorem dX8_tellSaid_10 : decode cX8_tellSaid 10 = .ok (.istore 4, 2) := by decide +kernel
theorem dX8_tellSaid_12 : decode cX8_tellSaid 12 = .ok (.iload 4, 2) := by decide +kernel
theorem dX8_tellSaid_14 : decode cX8_tellSaid 14 = .ok (.iconst 4, 1) := by decide +kernel
theorem dX8_tellSaid_15 : decode cX8_tellSaid 15 = .ok (.if_icmp .ge 46, 3) := by decide +kernel
theorem dX8_tellSaid_18 : decode cX8_tellSaid 18 = .ok (.aload_n 0, 1) := by decide +kernel
theorem dX8_tellSaid_19 : decode cX8_tellSaid 19 = .ok (.iload 4, 2) := by decide +kernel
theorem dX8_tellSaid_21 : decode cX8_tellSaid 21 = .ok (.iconst 1, 1) := by decide +kernel
theorem dX8_tellSaid_22 : decode cX8_tellSaid 22 = .ok (.iload_n 1, 1) := by decide +kernel
theorem dX8_tellSaid_23 : decode cX8_tellSaid 23 = .ok (.invokevirtual 196, 3) := by decide +kernel
theorem dX8_tellSaid_26 : decode cX8_tellSaid 26 = .ok (.aload_n 0, 1) := by decide +kernel
theorem dX8_tellSaid_27 : decode cX8_tellSaid 27 = .ok (.iload 4, 2) := by decide +kernel
theorem dX8_tellSaid_29 : decode cX8_tellSaid 29 = .ok (.iconst (-1), 1) := by decide +kernel
theorem dX8_tellSaid_30 : decode cX8_tellSaid 30 = .ok (.iload_n 1, 1) := by decide +kernel
theorem dX8_tellSaid_31 : decode cX8_tellSaid 31 = .ok (.invokevirtual 196, 3) := by decide +kernel
theorem dX8_tellSaid_34 : decode cX8_tellSaid 34 = .ok (.isub, 1) := by decide +kernel
theorem dX8_tellSaid_35 : decode cX8_tellSaid 35 = .ok (.istore 5, 2) := by decide +kernel
theorem dX8_tellSaid_37 : decode cX8_tellSaid 37 = .ok (.iload 5, 2) := by decide +kernel
theorem dX8_tellSaid_39 : decode cX8_tellSaid 39 = .ok (.invokestatic 199, 3) := by decide +kernel
theorem dX8_tellSaid_42 : decode cX8_tellSaid 42 = .ok (.iload_n 3, 1) := by decide +kernel
theorem dX8_tellSaid_43 : decode cX8_tellSaid 43 = .ok (.invokestatic 199, 3) := by decide +kernel
theorem dX8_tellSaid_46 : decode cX8_tellSaid 46 = .ok (.if_icmp .le 9, 3) := by decide +kernel
theorem dX8_tellSaid_49 : decode cX8_tellSaid 49 = .ok (.iload 4, 2) := by decide +kernel
theorem dX8_tellSaid_51 : decode cX8_tellSaid 51 = .ok (.istore_n 2, 1) := by decide +kernel
theorem dX8_tellSaid_52 : decode cX8_tellSaid 52 = .ok (.iload 5, 2) := by decide +kernel
theorem dX8_tellSaid_54 : decode cX8_tellSaid 54 = .ok (.istore_n 3, 1) := by decide +kernel
theorem dX8_tellSaid_55 : decode cX8_tellSaid 55 = .ok (.iinc 4 1, 3) := by decide +kernel
theorem dX8_tellSaid_58 : decode cX8_tellSaid 58 = .ok (.goto (-46), 3) := by decide +kernel
theorem dX8_tellSaid_61 : decode cX8_tellSaid 61 = .ok (.aload_n 0, 1) := by decide +kernel
theorem dX8_tellSaid_62 : decode cX8_tellSaid 62 = .ok (.getfield 45, 3) := by decide +kernel
theorem dX8_tellSaid_65 : decode cX8_tellSaid 65 = .ok (.invokevirtual 94, 3) := by decide +kernel
theorem dX8_tellSaid_68 : decode cX8_tellSaid 68 = .ok (.aload_n 0, 1) := by decide +kernel
theorem dX8_tellSaid_69 : decode cX8_tellSaid 69 = .ok (.getfield 45, 3) := by decide +kernel
theorem dX8_tellSaid_72 : decode cX8_tellSaid 72 = .ok (.iload_n 3, 1) := by decide +kernel
theorem dX8_tellSaid_73 : decode cX8_tellSaid 73 = .ok (.i2l, 1) := by decide +kernel
theorem dX8_tellSaid_74 : decode cX8_tellSaid 74 = .ok (.invokevirtual 119, 3) := by decide +kernel
theorem dX8_tellSaid_77 : decode cX8_tellSaid 77 = .ok (.iload_n 2, 1) := by decide +kernel
theorem dX8_tellSaid_78 : decode cX8_tellSaid 78 = .ok (.ireturn, 1) := by decide +kernel
theorem dX8_tellChild_0 : decode cX8_tellChild 0 = .ok (.iload_n 1, 1) := by decide +kernel
theorem dX8_tellChild_1 : decode cX8_tellChild 1 = .ok (.iconst 1, 1) := by decide +kernel
theorem dX8_tellChild_2 : decode cX8_tellChild 2 = .ok (.bipush 9, 2) := by decide +kernel
theorem dX8_tellChild_4 : decode cX8_tellChild 4 = .ok (.invokestatic 123, 3) := by decide +kernel
theorem dX8_tellChild_7 : decode cX8_tellChild 7 = .ok (.ifCond .ne 5, 3) := by decide +kernel
theorem dX8_tellChild_10 : decode cX8_tellChild 10 = .ok (.iconst (-1), 1) := by decide +kernel
theorem dX8_tellChild_11 : decode cX8_tellChild 11 = .ok (.ireturn, 1) := by decide +kernel
theorem dX8_tellChild_12 : decode cX8_tellChild 12 = .ok (.aload_n 0, 1) := by decide +kernel
theorem dX8_tellChild_13 : decode cX8_tellChild 13 = .ok (.invokevirtual 154, 3) := by decide +kernel
theorem dX8_tellChild_16 : decode cX8_tellChild 16 = .ok (.istore_n 2, 1) := by decide +kernel
theorem dX8_tellChild_17 : decode cX8_tellChild 17 = .ok (.iconst 0, 1) := by decide +kernel
theorem dX8_tellChild_18 : decode cX8_tellChild 18 = .ok (.istore_n 3, 1) := by decide +kernel
theorem dX8_tellChild_19 : decode cX8_tellChild 19 = .ok (.iconst 0, 1) := by decide +kernel
theorem dX8_tellChild_20 : decode cX8_tellChild 20 = .ok (.istore 4, 2) := by decide +kernel
theorem dX8_tellChild_22 : decode cX8_tellChild 22 = .ok (.iconst 0, 1) := by decide +kernel
theorem dX8_tellChild_23 : decode cX8_tellChild 23 = .ok (.istore 5, 2) := by decide +kernel
theorem dX8_tellChild_25 : decode cX8_tellChild 25 = .ok (.iconst 0, 1) := by decide +kernel
theorem dX8_tellChild_26 : decode cX8_tellChild 26 = .ok (.istore 6, 2) := by decide +kernel
theorem dX8_tellChild_28 : decode cX8_tellChild 28 = .ok (.iload 6, 2) := by decide +kernel
theorem dX8_tellChild_30 : decode cX8_tellChild 30 = .ok (.iload_n 2, 1) := by decide +kernel
theorem dX8_tellChild_31 : decode cX8_tellChild 31 = .ok (.if_icmp .ge 99, 3) := by decide +kernel
theorem dX8_tellChild_34 : decode cX8_tellChild 34 = .ok (.iconst 0, 1) := by decide +kernel
theorem dX8_tellChild_35 : decode cX8_tellChild 35 = .ok (.istore 7, 2) := by decide +kernel
theorem dX8_tellChild_37 : decode cX8_tellChild 37 = .ok (.iload 7, 2) := by decide +kernel
theorem dX8_tellChild_39 : decode cX8_tellChild 39 = .ok (.iload_n 2, 1) := by decide +kernel
theorem dX8_tellChild_40 : decode cX8_tellChild 40 = .ok (.if_icmp .ge 84, 3) := by decide +kernel
theorem dX8_tellChild_43 : decode cX8_tellChild 43 = .ok (.aload_n 0, 1) := by decide +kernel
theorem dX8_tellChild_44 : decode cX8_tellChild 44 = .ok (.aload_n 0, 1) := by decide +kernel
theorem dX8_tellChild_45 : decode cX8_tellChild 45 = .ok (.getfield 35, 3) := by decide +kernel
theorem dX8_tellChild_48 : decode cX8_tellChild 48 = .ok (.iload 6, 2) := by decide +kernel
theorem dX8_tellChild_50 : decode cX8_tellChild 50 = .ok (.iaload, 1) := by decide +kernel
theorem dX8_tellChild_51 : decode cX8_tellChild 51 = .ok (.aload_n 0, 1) := by decide +kernel
theorem dX8_tellChild_52 : decode cX8_tellChild 52 = .ok (.getfield 35, 3) := by decide +kernel
theorem dX8_tellChild_55 : decode cX8_tellChild 55 = .ok (.iload 7, 2) := by decide +kernel
theorem dX8_tellChild_57 : decode cX8_tellChild 57 = .ok (.iaload, 1) := by decide +kernel
theorem dX8_tellChild_58 : decode cX8_tellChild 58 = .ok (.iload_n 1, 1) := by decide +kernel
theorem dX8_tellChild_59 : decode cX8_tellChild 59 = .ok (.invokevirtual 204, 3) := by decide +kernel
theorem dX8_tellChild_62 : decode cX8_tellChild 62 = .ok (.ifCond .eq 56, 3) := by decide +kernel
theorem dX8_tellChild_65 : decode cX8_tellChild 65 = .ok (.aload_n 0, 1) := by decide +kernel
theorem dX8_tellChild_66 : decode cX8_tellChild 66 = .ok (.aload_n 0, 1) := by decide +kernel
theorem dX8_tellChild_67 : decode cX8_tellChild 67 = .ok (.getfield 35, 3) := by decide +kernel
theorem dX8_tellChild_70 : decode cX8_tellChild 70 = .ok (.iload 6, 2) := by decide +kernel
theorem dX8_tellChild_72 : decode cX8_tellChild 72 = .ok (.iaload, 1) := by decide +kernel
theorem dX8_tellChild_73 : decode cX8_tellChild 73 = .ok (.aload_n 0, 1) := by decide +kernel
theorem dX8_tellChild_74 : decode cX8_tellChild 74 = .ok (.getfield 35, 3) := by decide +kernel
theorem dX8_tellChild_77 : decode cX8_tellChild 77 = .ok (.iload 7, 2) := by decide +kernel
theorem dX8_tellChild_79 : decode cX8_tellChild 79 = .ok (.iaload, 1) := by decide +kernel
theorem dX8_tellChild_80 : decode cX8_tellChild 80 = .ok (.invokevirtual 193, 3) := by decide +kernel
theorem dX8_tellChild_83 : decode cX8_tellChild 83 = .ok (.istore 8, 2) := by decide +kernel
theorem dX8_tellChild_85 : decode cX8_tellChild 85 = .ok (.iinc 3 1, 3) := by decide +kernel
theorem dX8_tellChild_88 : decode cX8_tellChild 88 = .ok (.iload 4, 2) := by decide +kernel
theorem dX8_tellChild_90 : decode cX8_tellChild 90 = .ok (.iload 8, 2) := by decide +kernel
theorem dX8_tellChild_92 : decode cX8_tellChild 92 = .ok (.ifCond .le 7, 3) := by decide +kernel
theorem dX8_tellChild_95 : decode cX8_tellChild 95 = .ok (.iconst 1, 1) := by decide +kernel
theorem dX8_tellChild_96 : decode cX8_tellChild 96 = .ok (.goto 4, 3) := by decide +kernel
theorem dX8_tellChild_99 : decode cX8_tellChild 99 = .ok (.iconst 0, 1) := by decide +kernel
theorem dX8_tellChild_100 : decode cX8_tellChild 100 = .ok (.iadd, 1) := by decide +kernel
theorem dX8_tellChild_101 : decode cX8_tellChild 101 = .ok (.istore 4, 2) := by decide +kernel
theorem dX8_tellChild_103 : decode cX8_tellChild 103 = .ok (.iload 5, 2) := by decide +kernel
theorem dX8_tellChild_105 : decode cX8_tellChild 105 = .ok (.iload 8, 2) := by decide +kernel
theorem dX8_tellChild_107 : decode cX8_tellChild 107 = .ok (.ifCond .ge 7, 3) := by decide +kernel
theorem dX8_tellChild_110 : decode cX8_tellChild 110 = .ok (.iconst 1, 1) := by decide +kernel
theorem dX8_tellChild_111 : decode cX8_tellChild 111 = .ok (.goto 4, 3) := by decide +kernel
theorem dX8_tellChild_114 : decode cX8_tellChild 114 = .ok (.iconst 0, 1) := by decide +kernel
theorem dX8_tellChild_115 : decode cX8_tellChild 115 = .ok (.iadd, 1) := by decide +kernel
theorem dX8_tellChild_116 : decode cX8_tellChild 116 = .ok (.istore 5, 2) := by decide +kernel
theorem dX8_tellChild_118 : decode cX8_tellChild 118 = .ok (.iinc 7 1, 3) := by decide +kernel
theorem dX8_tellChild_121 : decode cX8_tellChild 121 = .ok (.goto (-84), 3) := by decide +kernel
theorem dX8_tellChild_124 : decode cX8_tellChild 124 = .ok (.iinc 6 1, 3) := by decide +kernel
theorem dX8_tellChild_127 : decode cX8_tellChild 127 = .ok (.goto (-99), 3) := by decide +kernel
theorem dX8_tellChild_130 : decode cX8_tellChild 130 = .ok (.aload_n 0, 1) := by decide +kernel
theorem dX8_tellChild_131 : decode cX8_tellChild 131 = .ok (.getfield 45, 3) := by decide +kernel
theorem dX8_tellChild_134 : decode cX8_tellChild 134 = .ok (.invokevirtual 94, 3) := by decide +kernel
theorem dX8_tellChild_137 : decode cX8_tellChild 137 = .ok (.aload_n 0, 1) := by decide +kernel
theorem dX8_tellChild_138 : decode cX8_tellChild 138 = .ok (.getfield 45, 3) := by decide +kernel
theorem dX8_tellChild_141 : decode cX8_tellChild 141 = .ok (.iload_n 3, 1) := by decide +kernel
theorem dX8_tellChild_142 : decode cX8_tellChild 142 = .ok (.i2l, 1) := by decide +kernel
theorem dX8_tellChild_143 : decode cX8_tellChild 143 = .ok (.invokevirtual 119, 3) := by decide +kernel
theorem dX8_tellChild_146 : decode cX8_tellChild 146 = .ok (.aload_n 0, 1) := by decide +kernel
theorem dX8_tellChild_147 : decode cX8_tellChild 147 = .ok (.getfield 45, 3) := by decide +kernel
theorem dX8_tellChild_150 : decode cX8_tellChild 150 = .ok (.iload 5, 2) := by decide +kernel
theorem dX8_tellChild_152 : decode cX8_tellChild 152 = .ok (.i2l, 1) := by decide +kernel
theorem dX8_tellChild_153 : decode cX8_tellChild 153 = .ok (.invokevirtual 119, 3) := by decide +kernel
theorem dX8_tellChild_156 : decode cX8_tellChild 156 = .ok (.iload 4, 2) := by decide +kernel
theorem dX8_tellChild_158 : decode cX8_tellChild 158 = .ok (.ireturn, 1) := by decide +kernel
theorem dX8_isChildPair_0 : decode cX8_isChildPair 0 = .ok (.aload_n 0, 1) := by decide +kernel
theorem dX8_isChildPair_1 : decode cX8_isChildPair 1 = .ok (.getfield 41, 3) := by decide +kernel
theorem dX8_isChildPair_4 : decode cX8_isChildPair 4 = .ok (.getfield 160, 3) := by decide +kernel
theorem dX8_isChildPair_7 : decode cX8_isChildPair 7 = .ok (.iload_n 1, 1) := by decide +kernel
theorem dX8_isChildPair_8 : decode cX8_isChildPair 8 = .ok (.iaload, 1) := by decide +kernel
theorem dX8_isChildPair_9 : decode cX8_isChildPair 9 = .ok (.aload_n 0, 1) := by decide +kernel
theorem dX8_isChildPair_10 : decode cX8_isChildPair 10 = .ok (.getfield 41, 3) := by decide +kernel
theorem dX8_isChildPair_13 : decode cX8_isChildPair 13 = .ok (.getfield 160, 3) := by decide +kernel
theorem dX8_isChildPair_16 : decode cX8_isChildPair 16 = .ok (.iload_n 2, 1) := by decide +kernel
theorem dX8_isChildPair_17 : decode cX8_isChildPair 17 = .ok (.iaload, 1) := by decide +kernel
theorem dX8_isChildPair_18 : decode cX8_isChildPair 18 = .ok (.if_icmp .ne 51, 3) := by decide +kernel
theorem dX8_isChildPair_21 : decode cX8_isChildPair 21 = .ok (.aload_n 0, 1) := by decide +kernel
theorem dX8_isChildPair_22 : decode cX8_isChildPair 22 = .ok (.getfield 41, 3) := by decide +kernel
theorem dX8_isChildPair_25 : decode cX8_isChildPair 25 = .ok (.getfield 180, 3) := by decide +kernel
theorem dX8_isChildPair_28 : decode cX8_isChildPair 28 = .ok (.iload_n 1, 1) := by decide +kernel
theorem dX8_isChildPair_29 : decode cX8_isChildPair 29 = .ok (.iaload, 1) := by decide +kernel
theorem dX8_isChildPair_30 : decode cX8_isChildPair 30 = .ok (.aload_n 0, 1) := by decide +kernel
theorem dX8_isChildPair_31 : decode cX8_isChildPair 31 = .ok (.getfield 41, 3) := by decide +kernel
theorem dX8_isChildPair_34 : decode cX8_isChildPair 34 = .ok (.getfield 180, 3) := by decide +kernel
theorem dX8_isChildPair_37 : decode cX8_isChildPair 37 = .ok (.iload_n 2, 1) := by decide +kernel
theorem dX8_isChildPair_38 : decode cX8_isChildPair 38 = .ok (.iaload, 1) := by decide +kernel
theorem dX8_isChildPair_39 : decode cX8_isChildPair 39 = .ok (.if_icmp .ne 30, 3) := by decide +kernel
theorem dX8_isChildPair_42 : decode cX8_isChildPair 42 = .ok (.aload_n 0, 1) := by decide +kernel
theorem dX8_isChildPair_43 : decode cX8_isChildPair 43 = .ok (.getfield 41, 3) := by decide +kernel
theorem dX8_isChildPair_46 : decode cX8_isChildPair 46 = .ok (.getfield 183, 3) := by decide +kernel
theorem dX8_isChildPair_49 : decode cX8_isChildPair 49 = .ok (.iload_n 1, 1) := by decide +kernel
theorem dX8_isChildPair_50 : decode cX8_isChildPair 50 = .ok (.iaload, 1) := by decide +kernel
theorem dX8_isChildPair_51 : decode cX8_isChildPair 51 = .ok (.aload_n 0, 1) := by decide +kernel
theorem dX8_isChildPair_52 : decode cX8_isChildPair 52 = .ok (.getfield 41, 3) := by decide +kernel
theorem dX8_isChildPair_55 : decode cX8_isChildPair 55 = .ok (.getfield 183, 3) := by decide +kernel
theorem dX8_isChildPair_58 : decode cX8_isChildPair 58 = .ok (.iload_n 2, 1) := by decide +kernel
theorem dX8_isChildPair_59 : decode cX8_isChildPair 59 = .ok (.iaload, 1) := by decide +kernel
theorem dX8_isChildPair_60 : decode cX8_isChildPair 60 = .ok (.isub, 1) := by decide +kernel
theorem dX8_isChildPair_61 : decode cX8_isChildPair 61 = .ok (.iload_n 3, 1) := by decide +kernel
theorem dX8_isChildPair_62 : decode cX8_isChildPair 62 = .ok (.if_icmp .lt 7, 3) := by decide +kernel
theorem dX8_isChildPair_65 : decode cX8_isChildPair 65 = .ok (.iconst 1, 1) := by decide +kernel
theorem dX8_isChildPair_66 : decode cX8_isChildPair 66 = .ok (.goto 4, 3) := by decide +kernel
theorem dX8_isChildPair_69 : decode cX8_isChildPair 69 = .ok (.iconst 0, 1) := by decide +kernel
theorem dX8_isChildPair_70 : decode cX8_isChildPair 70 = .ok (.ireturn, 1) := by decide +kernel
theorem dX9_init_0 : decode cX9_init 0 = .ok (.aload_n 0, 1) := by decide +kernel
theorem dX9_init_1 : decode cX9_init 1 = .ok (.invokespecial 1, 3) := by decide +kernel
theorem dX9_init_4 : decode cX9_init 4 = .ok (.aload_n 0, 1) := by decide +kernel
theorem dX9_init_5 : decode cX9_init 5 = .ok (.iconst 2, 1) := by decide +kernel
theorem dX9_init_6 : decode cX9_init 6 = .ok (.newarray .int, 2) := by decide +kernel
theorem dX9_init_8 : decode cX9_init 8 = .ok (.putfield 7, 3) := by decide +kernel
theorem dX9_init_11 : decode cX9_init 11 = .ok (.aload_n 0, 1) := by decide +kernel
theorem dX9_init_12 : decode cX9_init 12 = .ok (.iconst 2, 1) := by decide +kernel
theorem dX9_init_13 : decode cX9_init 13 = .ok (.newarray .int, 2) := by decide +kernel
theorem dX9_init_15 : decode cX9_init 15 = .ok (.putfield 13, 3) := by decide +kernel
theorem dX9_init_18 : decode cX9_init 18 = .ok (.return_, 1) := by decide +kernel
theorem dX9_clear_0 : decode cX9_clear 0 = .ok (.aload_n 0, 1) := by decide +kernel
theorem dX9_clear_1 : decode cX9_clear 1 = .ok (.getfield 7, 3) := by decide +kernel
theorem dX9_clear_4 : decode cX9_clear 4 = .ok (.iconst 0, 1) := by decide +kernel
theorem dX9_clear_5 : decode cX9_clear 5 = .ok (.iconst 0, 1) := by decide +kernel
theorem dX9_clear_6 : decode cX9_clear 6 = .ok (.iastore, 1) := by decide +kernel
theorem dX9_clear_7 : decode cX9_clear 7 = .ok (.aload_n 0, 1) := by decide +kernel
theorem dX9_clear_8 : decode cX9_clear 8 = .ok (.getfield 7, 3) := by decide +kernel
theorem dX9_clear_11 : decode cX9_clear 11 = .ok (.iconst 1, 1) := by decide +kernel
theorem dX9_clear_12 : decode cX9_clear 12 = .ok (.iconst 0, 1) := by decide +kernel
theorem dX9_clear_13 : decode cX9_clear 13 = .ok (.iastore, 1) := by decide +kernel
theorem dX9_clear_14 : decode cX9_clear 14 = .ok (.aload_n 0, 1) := by decide +kernel
theorem dX9_clear_15 : decode cX9_clear 15 = .ok (.getfield 13, 3) := by decide +kernel
theorem dX9_clear_18 : decode cX9_clear 18 = .ok (.iconst 0, 1) := by decide +kernel
theorem dX9_clear_19 : decode cX9_clear 19 = .ok (.iconst 0, 1) := by decide +kernel
theorem dX9_clear_20 : decode cX9_clear 20 = .ok (.iastore, 1) := by decide +kernel
theorem dX9_clear_21 : decode cX9_clear 21 = .ok (.aload_n 0, 1) := by decide +kernel
theorem dX9_clear_22 : decode cX9_clear 22 = .ok (.getfield 13, 3) := by decide +kernel
theorem dX9_clear_25 : decode cX9_clear 25 = .ok (.iconst 1, 1) := by decide +kernel
theorem dX9_clear_26 : decode cX9_clear 26 = .ok (.iconst 0, 1) := by decide +kernel
theorem dX9_clear_27 : decode cX9_clear 27 = .ok (.iastore, 1) := by decide +kernel
theorem dX9_clear_28 : decode cX9_clear 28 = .ok (.return_, 1) := by decide +kernel
theorem dX9_note_0 : decode cX9_note 0 = .ok (.aload_n 0, 1) := by decide +kernel
theorem dX9_note_1 : decode cX9_note 1 = .ok (.getfield 7, 3) := by decide +kernel
theorem dX9_note_4 : decode cX9_note 4 = .ok (.iload_n 1, 1) := by decide +kernel
theorem dX9_note_5 : decode cX9_note 5 = .ok (.dup2, 1) := by decide +kernel
theorem dX9_note_6 : decode cX9_note 6 = .ok (.iaload, 1) := by decide +kernel
theorem dX9_note_7 : decode cX9_note 7 = .ok (.iconst 1, 1) := by decide +kernel
theorem dX9_note_8 : decode cX9_note 8 = .ok (.iadd, 1) := by decide +kernel
theorem dX9_note_9 : decode cX9_note 9 = .ok (.iastore, 1) := by decide +kernel
theorem dX9_note_10 : decode cX9_note 10 = .ok (.aload_n 0, 1) := by decide +kernel
theorem dX9_note_11 : decode cX9_note 11 = .ok (.getfield 13, 3) := by decide +kernel
theorem dX9_note_14 : decode cX9_note 14 = .ok (.iload_n 1, 1) := by decide +kernel
theorem dX9_note_15 : decode cX9_note 15 = .ok (.dup2, 1) := by decide +kernel
theorem dX9_note_16 : decode cX9_note 16 = .ok (.iaload, 1) := by decide +kernel
theorem dX9_note_17 : decode cX9_note 17 = .ok (.iload_n 2, 1) := by decide +kernel
theorem dX9_note_18 : decode cX9_note 18 = .ok (.ifCond .eq 7, 3) := by decide +kernel
theorem dX9_note_21 : decode cX9_note 21 = .ok (.iconst 1, 1) := by decide +kernel
theorem dX9_note_22 : decode cX9_note 22 = .ok (.goto 4, 3) := by decide +kernel
theorem dX9_note_25 : decode cX9_note 25 = .ok (.iconst 0, 1) := by decide +kernel
theorem dX9_note_26 : decode cX9_note 26 = .ok (.iadd, 1) := by decide +kernel
theorem dX9_note_27 : decode cX9_note 27 = .ok (.iastore, 1) := by decide +kernel
theorem dX9_note_28 : decode cX9_note 28 = .ok (.return_, 1) := by decide +kernel
theorem dX9_becomeWithout_0 : decode cX9_becomeWithout 0 = .ok (.iconst 0, 1) := by decide +kernel
theorem dX9_becomeWithout_1 : decode cX9_becomeWithout 1 = .ok (.istore_n 3, 1) := by decide +kernel
theorem dX9_becomeWithout_2 : decode cX9_becomeWithout 2 = .ok (.iload_n 3, 1) := by decide +kernel
theorem dX9_becomeWithout_3 : decode cX9_becomeWithout 3 = .ok (.iconst 2, 1) := by decide +kernel
theorem dX9_becomeWithout_4 : decode cX9_becomeWithout 4 = .ok (.if_icmp .ge 47, 3) := by decide +kernel
theorem dX9_becomeWithout_7 : decode cX9_becomeWithout 7 = .ok (.aload_n 0, 1) := by decide +kernel
theorem dX9_becomeWithout_8 : decode cX9_becomeWithout 8 = .ok (.getfield 7, 3) := by decide +kernel
theorem dX9_becomeWithout_11 : decode cX9_becomeWithout 11 = .ok (.iload_n 3, 1) := by decide +kernel
theorem dX9_becomeWithout_12 : decode cX9_becomeWithout 12 = .ok (.aload_n 1, 1) := by decide +kernel
theorem dX9_becomeWithout_13 : decode cX9_becomeWithout 13 = .ok (.getfield 7, 3) := by decide +kernel
theorem dX9_becomeWithout_16 : decode cX9_becomeWithout 16 = .ok (.iload_n 3, 1) := by decide +kernel
theorem dX9_becomeWithout_17 : decode cX9_becomeWithout 17 = .ok (.iaload, 1) := by decide +kernel
theorem dX9_becomeWithout_18 : decode cX9_becomeWithout 18 = .ok (.aload_n 2, 1) := by decide +kernel
theorem dX9_becomeWithout_19 : decode cX9_becomeWithout 19 = .ok (.getfield 7, 3) := by decide +kernel
theorem dX9_becomeWithout_22 : decode cX9_becomeWithout 22 = .ok (.iload_n 3, 1) := by decide +kernel
theorem dX9_becomeWithout_23 : decode cX9_becomeWithout 23 = .ok (.iaload, 1) := by decide +kernel
theorem dX9_becomeWithout_24 : decode cX9_becomeWithout 24 = .ok (.isub, 1) := by decide +kernel
theorem dX9_becomeWithout_25 : decode cX9_becomeWithout 25 = .ok (.iastore, 1) := by decide +kernel
theorem dX9_becomeWithout_26 : decode cX9_becomeWithout 26 = .ok (.aload_n 0, 1) := by decide +kernel
theorem dX9_becomeWithout_27 : decode cX9_becomeWithout 27 = .ok (.getfield 13, 3) := by decide +kernel
theorem dX9_becomeWithout_30 : decode cX9_becomeWithout 30 = .ok (.iload_n 3, 1) := by decide +kernel
theorem dX9_becomeWithout_31 : decode cX9_becomeWithout 31 = .ok (.aload_n 1, 1) := by decide +kernel
theorem dX9_becomeWithout_32 : decode cX9_becomeWithout 32 = .ok (.getfield 13, 3) := by decide +kernel
theorem dX9_becomeWithout_35 : decode cX9_becomeWithout 35 = .ok (.iload_n 3, 1) := by decide +kernel
theorem dX9_becomeWithout_36 : decode cX9_becomeWithout 36 = .ok (.iaload, 1) := by decide +kernel
theorem dX9_becomeWithout_37 : decode cX9_becomeWithout 37 = .ok (.aload_n 2, 1) := by decide +kernel
theorem dX9_becomeWithout_38 : decode cX9_becomeWithout 38 = .ok (.getfield 13, 3) := by decide +kernel
theorem dX9_becomeWithout_41 : decode cX9_becomeWithout 41 = .ok (.iload_n 3, 1) := by decide +kernel
theorem dX9_becomeWithout_42 : decode cX9_becomeWithout 42 = .ok (.iaload, 1) := by decide +kernel
theorem dX9_becomeWithout_43 : decode cX9_becomeWithout 43 = .ok (.isub, 1) := by decide +kernel
theorem dX9_becomeWithout_44 : decode cX9_becomeWithout 44 = .ok (.iastore, 1) := by decide +kernel
theorem dX9_becomeWithout_45 : decode cX9_becomeWithout 45 = .ok (.iinc 3 1, 3) := by decide +kernel
theorem dX9_becomeWithout_48 : decode cX9_becomeWithout 48 = .ok (.goto (-46), 3) := by decide +kernel
theorem dX9_becomeWithout_51 : decode cX9_becomeWithout 51 = .ok (.return_, 1) := by decide +kernel
theorem dX9_hasBoth_0 : decode cX9_hasBoth 0 = .ok (.aload_n 0, 1) := by decide +kernel
theorem dX9_hasBoth_1 : decode cX9_hasBoth 1 = .ok (.getfield 7, 3) := by decide +kernel
theorem dX9_hasBoth_4 : decode cX9_hasBoth 4 = .ok (.iconst 0, 1) := by decide +kernel
theorem dX9_hasBoth_5 : decode cX9_hasBoth 5 = .ok (.iaload, 1) := by decide +kernel
theorem dX9_hasBoth_6 : decode cX9_hasBoth 6 = .ok (.ifCond .le 16, 3) := by decide +kernel
theorem dX9_hasBoth_9 : decode cX9_hasBoth 9 = .ok (.aload_n 0, 1) := by decide +kernel
theorem dX9_hasBoth_10 : decode cX9_hasBoth 10 = .ok (.getfield 7, 3) := by decide +kernel
theorem dX9_hasBoth_13 : decode cX9_hasBoth 13 = .ok (.iconst 1, 1) := by decide +kernel
theorem dX9_hasBoth_14 : decode cX9_hasBoth 14 = .ok (.iaload, 1) := by decide +kernel
theorem dX9_hasBoth_15 : decode cX9_hasBoth 15 = .ok (.ifCond .le 7, 3) := by decide +kernel
theorem dX9_hasBoth_18 : decode cX9_hasBoth 18 = .ok (.iconst 1, 1) := by decide +kernel
theorem dX9_hasBoth_19 : decode cX9_hasBoth 19 = .ok (.goto 4, 3) := by decide +kernel
theorem dX9_hasBoth_22 : decode cX9_hasBoth 22 = .ok (.iconst 0, 1) := by decide +kernel
theorem dX9_hasBoth_23 : decode cX9_hasBoth 23 = .ok (.ireturn, 1) := by decide +kernel
theorem dX9_all_0 : decode cX9_all 0 = .ok (.aload_n 0, 1) := by decide +kernel
theorem dX9_all_1 : decode cX9_all 1 = .ok (.getfield 7, 3) := by decide +kernel
theorem dX9_all_4 : decode cX9_all 4 = .ok (.iconst 0, 1) := by decide +kernel
theorem dX9_all_5 : decode cX9_all 5 = .ok (.iaload, 1) := by decide +kernel
theorem dX9_all_6 : decode cX9_all 6 = .ok (.aload_n 0, 1) := by decide +kernel
theorem dX9_all_7 : decode cX9_all 7 = .ok (.getfield 7, 3) := by decide +kernel
theorem dX9_all_10 : decode cX9_all 10 = .ok (.iconst 1, 1) := by decide +kernel
theorem dX9_all_11 : decode cX9_all 11 = .ok (.iaload, 1) := by decide +kernel
theorem dX9_all_12 : decode cX9_all 12 = .ok (.iadd, 1) := by decide +kernel
theorem dX9_all_13 : decode cX9_all 13 = .ok (.ireturn, 1) := by decide +kernel
theorem dX9_asideUpper_0 : decode cX9_asideUpper 0 = .ok (.aload_n 0, 1) := by decide +kernel
theorem dX9_asideUpper_1 : decode cX9_asideUpper 1 = .ok (.getfield 13, 3) := by decide +kernel
theorem dX9_asideUpper_4 : decode cX9_asideUpper 4 = .ok (.iconst 0, 1) := by decide +kernel
theorem dX9_asideUpper_5 : decode cX9_asideUpper 5 = .ok (.iaload, 1) := by decide +kernel
theorem dX9_asideUpper_6 : decode cX9_asideUpper 6 = .ok (.i2l, 1) := by decide +kernel
theorem dX9_asideUpper_7 : decode cX9_asideUpper 7 = .ok (.aload_n 0, 1) := by decide +kernel
theorem dX9_asideUpper_8 : decode cX9_asideUpper 8 = .ok (.getfield 7, 3) := by decide +kernel
theorem dX9_asideUpper_11 : decode cX9_asideUpper 11 = .ok (.iconst 1, 1) := by decide +kernel
theorem dX9_asideUpper_12 : decode cX9_asideUpper 12 = .ok (.iaload, 1) := by decide +kernel
theorem dX9_asideUpper_13 : decode cX9_asideUpper 13 = .ok (.i2l, 1) := by decide +kernel
theorem dX9_asideUpper_14 : decode cX9_asideUpper 14 = .ok (.lmul, 1) := by decide +kernel
theorem dX9_asideUpper_15 : decode cX9_asideUpper 15 = .ok (.aload_n 0, 1) := by decide +kernel
theorem dX9_asideUpper_16 : decode cX9_asideUpper 16 = .ok (.getfield 13, 3) := by decide +kernel
theorem dX9_asideUpper_19 : decode cX9_asideUpper 19 = .ok (.iconst 1, 1) := by decide +kernel
theorem dX9_asideUpper_20 : decode cX9_asideUpper 20 = .ok (.iaload, 1) := by decide +kernel
theorem dX9_asideUpper_21 : decode cX9_asideUpper 21 = .ok (.i2l, 1) := by decide +kernel
theorem dX9_asideUpper_22 : decode cX9_asideUpper 22 = .ok (.aload_n 0, 1) := by decide +kernel
theorem dX9_asideUpper_23 : decode cX9_asideUpper 23 = .ok (.getfield 7, 3) := by decide +kernel
theorem dX9_asideUpper_26 : decode cX9_asideUpper 26 = .ok (.iconst 0, 1) := by decide +kernel
theorem dX9_asideUpper_27 : decode cX9_asideUpper 27 = .ok (.iaload, 1) := by decide +kernel
theorem dX9_asideUpper_28 : decode cX9_asideUpper 28 = .ok (.i2l, 1) := by decide +kernel
theorem dX9_asideUpper_29 : decode cX9_asideUpper 29 = .ok (.lmul, 1) := by decide +kernel
theorem dX9_asideUpper_30 : decode cX9_asideUpper 30 = .ok (.lsub, 1) := by decide +kernel
theorem dX9_asideUpper_31 : decode cX9_asideUpper 31 = .ok (.lreturn, 1) := by decide +kernel
theorem dX9_asideLower_0 : decode cX9_asideLower 0 = .ok (.aload_n 0, 1) := by decide +kernel
theorem dX9_asideLower_1 : decode cX9_asideLower 1 = .ok (.getfield 7, 3) := by decide +kernel
theorem dX9_asideLower_4 : decode cX9_asideLower 4 = .ok (.iconst 0, 1) := by decide +kernel
theorem dX9_asideLower_5 : decode cX9_asideLower 5 = .ok (.iaload, 1) := by decide +kernel
theorem dX9_asideLower_6 : decode cX9_asideLower 6 = .ok (.i2l, 1) := by decide +kernel
theorem dX9_asideLower_7 : decode cX9_asideLower 7 = .ok (.aload_n 0, 1) := by decide +kernel
theorem dX9_asideLower_8 : decode cX9_asideLower 8 = .ok (.getfield 7, 3) := by decide +kernel
theorem dX9_asideLower_11 : decode cX9_asideLower 11 = .ok (.iconst 1, 1) := by decide +kernel
theorem dX9_asideLower_12 : decode cX9_asideLower 12 = .ok (.iaload, 1) := by decide +kernel
theorem dX9_asideLower_13 : decode cX9_asideLower 13 = .ok (.i2l, 1) := by decide +kernel
theorem dX9_asideLower_14 : decode cX9_asideLower 14 = .ok (.lmul, 1) := by decide +kernel
theorem dX9_asideLower_15 : decode cX9_asideLower 15 = .ok (.lreturn, 1) := by decide +kernel
theorem dX9_asideTimes_0 : decode cX9_asideTimes 0 = .ok (.aload_n 0, 1) := by decide +kernel
theorem dX9_asideTimes_1 : decode cX9_asideTimes 1 = .ok (.invokevirtual 16, 3) := by decide +kernel
theorem dX9_asideTimes_4 : decode cX9_asideTimes 4 = .ok (.ifCond .eq 41, 3) := by decide +kernel
theorem dX9_asideTimes_7 : decode cX9_asideTimes 7 = .ok (.aload_n 0, 1) := by decide +kernel
theorem dX9_asideTimes_8 : decode cX9_asideTimes 8 = .ok (.getfield 13, 3) := by decide +kernel
theorem dX9_asideTimes_11 : decode cX9_asideTimes 11 = .ok (.iconst 0, 1) := by decide +kernel
theorem dX9_asideTimes_12 : decode cX9_asideTimes 12 = .ok (.iaload, 1) := by decide +kernel
theorem dX9_asideTimes_13 : decode cX9_asideTimes 13 = .ok (.i2l, 1) := by decide +kernel
theorem dX9_asideTimes_14 : decode cX9_asideTimes 14 = .ok (.lload_n 1, 1) := by decide +kernel
theorem dX9_asideTimes_15 : decode cX9_asideTimes 15 = .ok (.aload_n 0, 1) := by decide +kernel
theorem dX9_asideTimes_16 : decode cX9_asideTimes 16 = .ok (.getfield 7, 3) := by decide +kernel
theorem dX9_asideTimes_19 : decode cX9_asideTimes 19 = .ok (.iconst 0, 1) := by decide +kernel
theorem dX9_asideTimes_20 : decode cX9_asideTimes 20 = .ok (.iaload, 1) := by decide +kernel
theorem dX9_asideTimes_21 : decode cX9_asideTimes 21 = .ok (.i2l, 1) := by decide +kernel
theorem dX9_asideTimes_22 : decode cX9_asideTimes 22 = .ok (.ldiv, 1) := by decide +kernel
theorem dX9_asideTimes_23 : decode cX9_asideTimes 23 = .ok (.lmul, 1) := by decide +kernel
theorem dX9_asideTimes_24 : decode cX9_asideTimes 24 = .ok (.aload_n 0, 1) := by decide +kernel
theorem dX9_asideTimes_25 : decode cX9_asideTimes 25 = .ok (.getfield 13, 3) := by decide +kernel
theorem dX9_asideTimes_28 : decode cX9_asideTimes 28 = .ok (.iconst 1, 1) := by decide +kernel
theorem dX9_asideTimes_29 : decode cX9_asideTimes 29 = .ok (.iaload, 1) := by decide +kernel
theorem dX9_asideTimes_30 : decode cX9_asideTimes 30 = .ok (.i2l, 1) := by decide +kernel
theorem dX9_asideTimes_31 : decode cX9_asideTimes 31 = .ok (.lload_n 1, 1) := by decide +kernel
theorem dX9_asideTimes_32 : decode cX9_asideTimes 32 = .ok (.aload_n 0, 1) := by decide +kernel
theorem dX9_asideTimes_33 : decode cX9_asideTimes 33 = .ok (.getfield 7, 3) := by decide +kernel
theorem dX9_asideTimes_36 : decode cX9_asideTimes 36 = .ok (.iconst 1, 1) := by decide +kernel
theorem dX9_asideTimes_37 : decode cX9_asideTimes 37 = .ok (.iaload, 1) := by decide +kernel
theorem dX9_asideTimes_38 : decode cX9_asideTimes 38 = .ok (.i2l, 1) := by decide +kernel
theorem dX9_asideTimes_39 : decode cX9_asideTimes 39 = .ok (.ldiv, 1) := by decide +kernel
theorem dX9_asideTimes_40 : decode cX9_asideTimes 40 = .ok (.lmul, 1) := by decide +kernel
theorem dX9_asideTimes_41 : decode cX9_asideTimes 41 = .ok (.lsub, 1) := by decide +kernel
theorem dX9_asideTimes_42 : decode cX9_asideTimes 42 = .ok (.goto 4, 3) := by decide +kernel
theorem dX9_asideTimes_45 : decode cX9_asideTimes 45 = .ok (.lconst 0, 1) := by decide +kernel
theorem dX9_asideTimes_46 : decode cX9_asideTimes 46 = .ok (.lreturn, 1) := by decide +kernel
theorem dJ6_compare_7cf53_0 : decode cJ6_compare_7cf53 0 = .ok (.iload_n 0, 1) := by decide +kernel
theorem dJ6_compare_7cf53_1 : decode cJ6_compare_7cf53 1 = .ok (.iload_n 1, 1) := by decide +kernel
theorem dJ6_compare_7cf53_2 : decode cJ6_compare_7cf53 2 = .ok (.if_icmp .ge 7, 3) := by decide +kernel
theorem dJ6_compare_7cf53_5 : decode cJ6_compare_7cf53 5 = .ok (.iconst (-1), 1) := by decide +kernel
theorem dJ6_compare_7cf53_6 : decode cJ6_compare_7cf53 6 = .ok (.goto 13, 3) := by decide +kernel
theorem dJ6_compare_7cf53_9 : decode cJ6_compare_7cf53 9 = .ok (.iload_n 0, 1) := by decide +kernel
theorem dJ6_compare_7cf53_10 : decode cJ6_compare_7cf53 10 = .ok (.iload_n 1, 1) := by decide +kernel
theorem dJ6_compare_7cf53_11 : decode cJ6_compare_7cf53 11 = .ok (.if_icmp .ne 7, 3) := by decide +kernel
theorem dJ6_compare_7cf53_14 : decode cJ6_compare_7cf53 14 = .ok (.iconst 0, 1) := by decide +kernel
theorem dJ6_compare_7cf53_15 : decode cJ6_compare_7cf53 15 = .ok (.goto 4, 3) := by decide +kernel
theorem dJ6_compare_7cf53_18 : decode cJ6_compare_7cf53 18 = .ok (.iconst 1, 1) := by decide +kernel
theorem dJ6_compare_7cf53_19 : decode cJ6_compare_7cf53 19 = .ok (.ireturn, 1) := by decide +kernel
theorem dJ6_bitCount_0f7a4_0 : decode cJ6_bitCount_0f7a4 0 = .ok (.iload_n 0, 1) := by decide +kernel
theorem dJ6_bitCount_0f7a4_1 : decode cJ6_bitCount_0f7a4 1 = .ok (.iload_n 0, 1) := by decide +kernel
theorem dJ6_bitCount_0f7a4_2 : decode cJ6_bitCount_0f7a4 2 = .ok (.iconst 1, 1) := by decide +kernel
theorem dJ6_bitCount_0f7a4_3 : decode cJ6_bitCount_0f7a4 3 = .ok (.iushr, 1) := by decide +kernel
theorem dJ6_bitCount_0f7a4_4 : decode cJ6_bitCount_0f7a4 4 = .ok (.ldc_w 265, 3) := by decide +kernel
theorem dJ6_bitCount_0f7a4_7 : decode cJ6_bitCount_0f7a4 7 = .ok (.iand, 1) := by decide +kernel
theorem dJ6_bitCount_0f7a4_8 : decode cJ6_bitCount_0f7a4 8 = .ok (.isub, 1) := by decide +kernel
theorem dJ6_bitCount_0f7a4_9 : decode cJ6_bitCount_0f7a4 9 = .ok (.istore_n 0, 1) := by decide +kernel
theorem dJ6_bitCount_0f7a4_10 : decode cJ6_bitCount_0f7a4 10 = .ok (.iload_n 0, 1) := by decide +kernel
theorem dJ6_bitCount_0f7a4_11 : decode cJ6_bitCount_0f7a4 11 = .ok (.ldc_w 266, 3) := by decide +kernel
theorem dJ6_bitCount_0f7a4_14 : decode cJ6_bitCount_0f7a4 14 = .ok (.iand, 1) := by decide +kernel
theorem dJ6_bitCount_0f7a4_15 : decode cJ6_bitCount_0f7a4 15 = .ok (.iload_n 0, 1) := by decide +kernel
theorem dJ6_bitCount_0f7a4_16 : decode cJ6_bitCount_0f7a4 16 = .ok (.iconst 2, 1) := by decide +kernel
theorem dJ6_bitCount_0f7a4_17 : decode cJ6_bitCount_0f7a4 17 = .ok (.iushr, 1) := by decide +kernel
theorem dJ6_bitCount_0f7a4_18 : decode cJ6_bitCount_0f7a4 18 = .ok (.ldc_w 266, 3) := by decide +kernel
theorem dJ6_bitCount_0f7a4_21 : decode cJ6_bitCount_0f7a4 21 = .ok (.iand, 1) := by decide +kernel
theorem dJ6_bitCount_0f7a4_22 : decode cJ6_bitCount_0f7a4 22 = .ok (.iadd, 1) := by decide +kernel
theorem dJ6_bitCount_0f7a4_23 : decode cJ6_bitCount_0f7a4 23 = .ok (.istore_n 0, 1) := by decide +kernel
theorem dJ6_bitCount_0f7a4_24 : decode cJ6_bitCount_0f7a4 24 = .ok (.iload_n 0, 1) := by decide +kernel
theorem dJ6_bitCount_0f7a4_25 : decode cJ6_bitCount_0f7a4 25 = .ok (.iload_n 0, 1) := by decide +kernel
theorem dJ6_bitCount_0f7a4_26 : decode cJ6_bitCount_0f7a4 26 = .ok (.iconst 4, 1) := by decide +kernel
theorem dJ6_bitCount_0f7a4_27 : decode cJ6_bitCount_0f7a4 27 = .ok (.iushr, 1) := by decide +kernel
theorem dJ6_bitCount_0f7a4_28 : decode cJ6_bitCount_0f7a4 28 = .ok (.iadd, 1) := by decide +kernel
theorem dJ6_bitCount_0f7a4_29 : decode cJ6_bitCount_0f7a4 29 = .ok (.ldc_w 267, 3) := by decide +kernel
theorem dJ6_bitCount_0f7a4_32 : decode cJ6_bitCount_0f7a4 32 = .ok (.iand, 1) := by decide +kernel
theorem dJ6_bitCount_0f7a4_33 : decode cJ6_bitCount_0f7a4 33 = .ok (.istore_n 0, 1) := by decide +kernel
theorem dJ6_bitCount_0f7a4_34 : decode cJ6_bitCount_0f7a4 34 = .ok (.iload_n 0, 1) := by decide +kernel
theorem dJ6_bitCount_0f7a4_35 : decode cJ6_bitCount_0f7a4 35 = .ok (.iload_n 0, 1) := by decide +kernel
theorem dJ6_bitCount_0f7a4_36 : decode cJ6_bitCount_0f7a4 36 = .ok (.bipush 8, 2) := by decide +kernel
theorem dJ6_bitCount_0f7a4_38 : decode cJ6_bitCount_0f7a4 38 = .ok (.iushr, 1) := by decide +kernel
theorem dJ6_bitCount_0f7a4_39 : decode cJ6_bitCount_0f7a4 39 = .ok (.iadd, 1) := by decide +kernel
theorem dJ6_bitCount_0f7a4_40 : decode cJ6_bitCount_0f7a4 40 = .ok (.istore_n 0, 1) := by decide +kernel
theorem dJ6_bitCount_0f7a4_41 : decode cJ6_bitCount_0f7a4 41 = .ok (.iload_n 0, 1) := by decide +kernel
theorem dJ6_bitCount_0f7a4_42 : decode cJ6_bitCount_0f7a4 42 = .ok (.iload_n 0, 1) := by decide +kernel
theorem dJ6_bitCount_0f7a4_43 : decode cJ6_bitCount_0f7a4 43 = .ok (.bipush 16, 2) := by decide +kernel
theorem dJ6_bitCount_0f7a4_45 : decode cJ6_bitCount_0f7a4 45 = .ok (.iushr, 1) := by decide +kernel
theorem dJ6_bitCount_0f7a4_46 : decode cJ6_bitCount_0f7a4 46 = .ok (.iadd, 1) := by decide +kernel
theorem dJ6_bitCount_0f7a4_47 : decode cJ6_bitCount_0f7a4 47 = .ok (.istore_n 0, 1) := by decide +kernel
theorem dJ6_bitCount_0f7a4_48 : decode cJ6_bitCount_0f7a4 48 = .ok (.iload_n 0, 1) := by decide +kernel
theorem dJ6_bitCount_0f7a4_49 : decode cJ6_bitCount_0f7a4 49 = .ok (.bipush 63, 2) := by decide +kernel
theorem dJ6_bitCount_0f7a4_51 : decode cJ6_bitCount_0f7a4 51 = .ok (.iand, 1) := by decide +kernel
theorem dJ6_bitCount_0f7a4_52 : decode cJ6_bitCount_0f7a4 52 = .ok (.ireturn, 1) := by decide +kernel
theorem dJ6_signum_0f7a4_0 : decode cJ6_signum_0f7a4 0 = .ok (.iload_n 0, 1) := by decide +kernel
theorem dJ6_signum_0f7a4_1 : decode cJ6_signum_0f7a4 1 = .ok (.bipush 31, 2) := by decide +kernel
theorem dJ6_signum_0f7a4_3 : decode cJ6_signum_0f7a4 3 = .ok (.ishr, 1) := by decide +kernel
theorem dJ6_signum_0f7a4_4 : decode cJ6_signum_0f7a4 4 = .ok (.iload_n 0, 1) := by decide +kernel
theorem dJ6_signum_0f7a4_5 : decode cJ6_signum_0f7a4 5 = .ok (.ineg, 1) := by decide +kernel
theorem dJ6_signum_0f7a4_6 : decode cJ6_signum_0f7a4 6 = .ok (.bipush 31, 2) := by decide +kernel
theorem dJ6_signum_0f7a4_8 : decode cJ6_signum_0f7a4 8 = .ok (.iushr, 1) := by decide +kernel
theorem dJ6_signum_0f7a4_9 : decode cJ6_signum_0f7a4 9 = .ok (.ior, 1) := by decide +kernel
theorem dJ6_signum_0f7a4_10 : decode cJ6_signum_0f7a4 10 = .ok (.ireturn, 1) := by decide +kernel
theorem dJ9_abs_0f7a4_0 : decode cJ9_abs_0f7a4 0 = .ok (.iload_n 0, 1) := by decide +kernel
theorem dJ9_abs_0f7a4_1 : decode cJ9_abs_0f7a4 1 = .ok (.ifCond .ge 8, 3) := by decide +kernel
theorem dJ9_abs_0f7a4_4 : decode cJ9_abs_0f7a4 4 = .ok (.iload_n 0, 1) := by decide +kernel
theorem dJ9_abs_0f7a4_5 : decode cJ9_abs_0f7a4 5 = .ok (.ineg, 1) := by decide +kernel
theorem dJ9_abs_0f7a4_6 : decode cJ9_abs_0f7a4 6 = .ok (.goto 4, 3) := by decide +kernel
theorem dJ9_abs_0f7a4_9 : decode cJ9_abs_0f7a4 9 = .ok (.iload_n 0, 1) := by decide +kernel
theorem dJ9_abs_0f7a4_10 : decode cJ9_abs_0f7a4 10 = .ok (.ireturn, 1) := by decide +kernel
theorem dJ9_abs_067f4_0 : decode cJ9_abs_067f4 0 = .ok (.lload_n 0, 1) := by decide +kernel
theorem dJ9_abs_067f4_1 : decode cJ9_abs_067f4 1 = .ok (.lconst 0, 1) := by decide +kernel
theorem dJ9_abs_067f4_2 : decode cJ9_abs_067f4 2 = .ok (.lcmp, 1) := by decide +kernel
theorem dJ9_abs_067f4_3 : decode cJ9_abs_067f4 3 = .ok (.ifCond .ge 8, 3) := by decide +kernel
theorem dJ9_abs_067f4_6 : decode cJ9_abs_067f4 6 = .ok (.lload_n 0, 1) := by decide +kernel
theorem dJ9_abs_067f4_7 : decode cJ9_abs_067f4 7 = .ok (.lneg, 1) := by decide +kernel
theorem dJ9_abs_067f4_8 : decode cJ9_abs_067f4 8 = .ok (.goto 4, 3) := by decide +kernel
theorem dJ9_abs_067f4_11 : decode cJ9_abs_067f4 11 = .ok (.lload_n 0, 1) := by decide +kernel
theorem dJ9_abs_067f4_12 : decode cJ9_abs_067f4 12 = .ok (.lreturn, 1) := by decide +kernel
theorem dJ9_max_7cf53_0 : decode cJ9_max_7cf53 0 = .ok (.iload_n 0, 1) := by decide +kernel
theorem dJ9_max_7cf53_1 : decode cJ9_max_7cf53 1 = .ok (.iload_n 1, 1) := by decide +kernel
theorem dJ9_max_7cf53_2 : decode cJ9_max_7cf53 2 = .ok (.if_icmp .lt 7, 3) := by decide +kernel
theorem dJ9_max_7cf53_5 : decode cJ9_max_7cf53 5 = .ok (.iload_n 0, 1) := by decide +kernel
theorem dJ9_max_7cf53_6 : decode cJ9_max_7cf53 6 = .ok (.goto 4, 3) := by decide +kernel
theorem dJ9_max_7cf53_9 : decode cJ9_max_7cf53 9 = .ok (.iload_n 1, 1) := by decide +kernel
theorem dJ9_max_7cf53_10 : decode cJ9_max_7cf53 10 = .ok (.ireturn, 1) := by decide +kernel
theorem dJ9_min_7cf53_0 : decode cJ9_min_7cf53 0 = .ok (.iload_n 0, 1) := by decide +kernel
theorem dJ9_min_7cf53_1 : decode cJ9_min_7cf53 1 = .ok (.iload_n 1, 1) := by decide +kernel
theorem dJ9_min_7cf53_2 : decode cJ9_min_7cf53 2 = .ok (.if_icmp .gt 7, 3) := by decide +kernel
theorem dJ9_min_7cf53_5 : decode cJ9_min_7cf53 5 = .ok (.iload_n 0, 1) := by decide +kernel
theorem dJ9_min_7cf53_6 : decode cJ9_min_7cf53 6 = .ok (.goto 4, 3) := by decide +kernel
theorem dJ9_min_7cf53_9 : decode cJ9_min_7cf53 9 = .ok (.iload_n 1, 1) := by decide +kernel
theorem dJ9_min_7cf53_10 : decode cJ9_min_7cf53 10 = .ok (.ireturn, 1) := by decide +kernel
theorem dJ0_length_8abf5_0 : decode cJ0_length_8abf5 0 = .ok (.aload_n 0, 1) := by decide +kernel
theorem dJ0_length_8abf5_1 : decode cJ0_length_8abf5 1 = .ok (.getfield 9, 3) := by decide +kernel
theorem dJ0_length_8abf5_4 : decode cJ0_length_8abf5 4 = .ok (.arraylength, 1) := by decide +kernel
theorem dJ0_length_8abf5_5 : decode cJ0_length_8abf5 5 = .ok (.aload_n 0, 1) := by decide +kernel
theorem dJ0_length_8abf5_6 : decode cJ0_length_8abf5 6 = .ok (.invokevirtual 335, 3) := by decide +kernel
theorem dJ0_length_8abf5_9 : decode cJ0_length_8abf5 9 = .ok (.ishr, 1) := by decide +kernel
theorem dJ0_length_8abf5_10 : decode cJ0_length_8abf5 10 = .ok (.ireturn, 1) := by decide +kernel
theorem dJ0_charAt_5068e_0 : decode cJ0_charAt_5068e 0 = .ok (.aload_n 0, 1) := by decide +kernel
theorem dJ0_charAt_5068e_1 : decode cJ0_charAt_5068e 1 = .ok (.invokevirtual 492, 3) := by decide +kernel
theorem dJ0_charAt_5068e_4 : decode cJ0_charAt_5068e 4 = .ok (.ifCond .eq 12, 3) := by decide +kernel
theorem dJ0_charAt_5068e_7 : decode cJ0_charAt_5068e 7 = .ok (.aload_n 0, 1) := by decide +kernel
theorem dJ0_charAt_5068e_8 : decode cJ0_charAt_5068e 8 = .ok (.getfield 9, 3) := by decide +kernel
theorem dJ0_charAt_5068e_11 : decode cJ0_charAt_5068e 11 = .ok (.iload_n 1, 1) := by decide +kernel
theorem dJ0_charAt_5068e_12 : decode cJ0_charAt_5068e 12 = .ok (.invokestatic 495, 3) := by decide +kernel
theorem dJ0_charAt_5068e_15 : decode cJ0_charAt_5068e 15 = .ok (.ireturn, 1) := by decide +kernel
theorem dJ0_charAt_5068e_16 : decode cJ0_charAt_5068e 16 = .ok (.aload_n 0, 1) := by decide +kernel
theorem dJ0_charAt_5068e_17 : decode cJ0_charAt_5068e 17 = .ok (.getfield 9, 3) := by decide +kernel
theorem dJ0_charAt_5068e_20 : decode cJ0_charAt_5068e 20 = .ok (.iload_n 1, 1) := by decide +kernel
theorem dJ0_charAt_5068e_21 : decode cJ0_charAt_5068e 21 = .ok (.invokestatic 498, 3) := by decide +kernel
theorem dJ0_charAt_5068e_24 : decode cJ0_charAt_5068e 24 = .ok (.ireturn, 1) := by decide +kernel
theorem dJ0_indexOf_0f7a4_0 : decode cJ0_indexOf_0f7a4 0 = .ok (.aload_n 0, 1) := by decide +kernel
theorem dJ0_indexOf_0f7a4_1 : decode cJ0_indexOf_0f7a4 1 = .ok (.iload_n 1, 1) := by decide +kernel
theorem dJ0_indexOf_0f7a4_2 : decode cJ0_indexOf_0f7a4 2 = .ok (.iconst 0, 1) := by decide +kernel
theorem dJ0_indexOf_0f7a4_3 : decode cJ0_indexOf_0f7a4 3 = .ok (.invokevirtual 633, 3) := by decide +kernel
theorem dJ0_indexOf_0f7a4_6 : decode cJ0_indexOf_0f7a4 6 = .ok (.ireturn, 1) := by decide +kernel
theorem dJ0_indexOf_7cf53_0 : decode cJ0_indexOf_7cf53 0 = .ok (.aload_n 0, 1) := by decide +kernel
theorem dJ0_indexOf_7cf53_1 : decode cJ0_indexOf_7cf53 1 = .ok (.invokevirtual 492, 3) := by decide +kernel
theorem dJ0_indexOf_7cf53_4 : decode cJ0_indexOf_7cf53 4 = .ok (.ifCond .eq 19, 3) := by decide +kernel
theorem dJ0_indexOf_7cf53_7 : decode cJ0_indexOf_7cf53 7 = .ok (.aload_n 0, 1) := by decide +kernel
theorem dJ0_indexOf_7cf53_8 : decode cJ0_indexOf_7cf53 8 = .ok (.getfield 9, 3) := by decide +kernel
theorem dJ0_indexOf_7cf53_11 : decode cJ0_indexOf_7cf53 11 = .ok (.iload_n 1, 1) := by decide +kernel
theorem dJ0_indexOf_7cf53_12 : decode cJ0_indexOf_7cf53 12 = .ok (.iload_n 2, 1) := by decide +kernel
theorem dJ0_indexOf_7cf53_13 : decode cJ0_indexOf_7cf53 13 = .ok (.aload_n 0, 1) := by decide +kernel
theorem dJ0_indexOf_7cf53_14 : decode cJ0_indexOf_7cf53 14 = .ok (.invokevirtual 505, 3) := by decide +kernel
theorem dJ0_indexOf_7cf53_17 : decode cJ0_indexOf_7cf53 17 = .ok (.invokestatic 637, 3) := by decide +kernel
theorem dJ0_indexOf_7cf53_20 : decode cJ0_indexOf_7cf53 20 = .ok (.goto 16, 3) := by decide +kernel
theorem dJ0_indexOf_7cf53_23 : decode cJ0_indexOf_7cf53 23 = .ok (.aload_n 0, 1) := by decide +kernel
theorem dJ0_indexOf_7cf53_24 : decode cJ0_indexOf_7cf53 24 = .ok (.getfield 9, 3) := by decide +kernel
theorem dJ0_indexOf_7cf53_27 : decode cJ0_indexOf_7cf53 27 = .ok (.iload_n 1, 1) := by decide +kernel
theorem dJ0_indexOf_7cf53_28 : decode cJ0_indexOf_7cf53 28 = .ok (.iload_n 2, 1) := by decide +kernel
theorem dJ0_indexOf_7cf53_29 : decode cJ0_indexOf_7cf53 29 = .ok (.aload_n 0, 1) := by decide +kernel
theorem dJ0_indexOf_7cf53_30 : decode cJ0_indexOf_7cf53 30 = .ok (.invokevirtual 505, 3) := by decide +kernel
theorem dJ0_indexOf_7cf53_33 : decode cJ0_indexOf_7cf53 33 = .ok (.invokestatic 640, 3) := by decide +kernel
theorem dJ0_indexOf_7cf53_36 : decode cJ0_indexOf_7cf53 36 = .ok (.ireturn, 1) := by decide +kernel
theorem dJ0_coder_7d493_0 : decode cJ0_coder_7d493 0 = .ok (.getstatic 38, 3) := by decide +kernel
theorem dJ0_coder_7d493_3 : decode cJ0_coder_7d493 3 = .ok (.ifCond .eq 10, 3) := by decide +kernel
theorem dJ0_coder_7d493_6 : decode cJ0_coder_7d493 6 = .ok (.aload_n 0, 1) := by decide +kernel
theorem dJ0_coder_7d493_7 : decode cJ0_coder_7d493 7 = .ok (.getfield 15, 3) := by decide +kernel
theorem dJ0_coder_7d493_10 : decode cJ0_coder_7d493 10 = .ok (.goto 4, 3) := by decide +kernel
theorem dJ0_coder_7d493_13 : decode cJ0_coder_7d493 13 = .ok (.iconst 1, 1) := by decide +kernel
theorem dJ0_coder_7d493_14 : decode cJ0_coder_7d493 14 = .ok (.ireturn, 1) := by decide +kernel
theorem dJ0_isLatin1_aae02_0 : decode cJ0_isLatin1_aae02 0 = .ok (.getstatic 38, 3) := by decide +kernel
theorem dJ0_isLatin1_aae02_3 : decode cJ0_isLatin1_aae02 3 = .ok (.ifCond .eq 14, 3) := by decide +kernel
theorem dJ0_isLatin1_aae02_6 : decode cJ0_isLatin1_aae02 6 = .ok (.aload_n 0, 1) := by decide +kernel
theorem dJ0_isLatin1_aae02_7 : decode cJ0_isLatin1_aae02 7 = .ok (.getfield 15, 3) := by decide +kernel
theorem dJ0_isLatin1_aae02_10 : decode cJ0_isLatin1_aae02 10 = .ok (.ifCond .ne 7, 3) := by decide +kernel
theorem dJ0_isLatin1_aae02_13 : decode cJ0_isLatin1_aae02 13 = .ok (.iconst 1, 1) := by decide +kernel
theorem dJ0_isLatin1_aae02_14 : decode cJ0_isLatin1_aae02 14 = .ok (.goto 4, 3) := by decide +kernel
theorem dJ0_isLatin1_aae02_17 : decode cJ0_isLatin1_aae02 17 = .ok (.iconst 0, 1) := by decide +kernel
theorem dJ0_isLatin1_aae02_18 : decode cJ0_isLatin1_aae02 18 = .ok (.ireturn, 1) := by decide +kernel
theorem dJ0_checkIndex_df160_0 : decode cJ0_checkIndex_df160 0 = .ok (.iload_n 0, 1) := by decide +kernel
theorem dJ0_checkIndex_df160_1 : decode cJ0_checkIndex_df160 1 = .ok (.iload_n 1, 1) := by decide +kernel
theorem dJ0_checkIndex_df160_2 : decode cJ0_checkIndex_df160 2 = .ok (.getstatic 1053, 3) := by decide +kernel
theorem dJ0_checkIndex_df160_5 : decode cJ0_checkIndex_df160 5 = .ok (.invokestatic 1059, 3) := by decide +kernel
theorem dJ0_checkIndex_df160_8 : decode cJ0_checkIndex_df160 8 = .ok (.pop, 1) := by decide +kernel
theorem dJ0_checkIndex_df160_9 : decode cJ0_checkIndex_df160 9 = .ok (.return_, 1) := by decide +kernel
theorem dJ0_checkBoundsBeginEnd_23922_0 : decode cJ0_checkBoundsBeginEnd_23922 0 = .ok (.iload_n 0, 1) := by decide +kernel
theorem dJ0_checkBoundsBeginEnd_23922_1 : decode cJ0_checkBoundsBeginEnd_23922 1 = .ok (.iload_n 1, 1) := by decide +kernel
theorem dJ0_checkBoundsBeginEnd_23922_2 : decode cJ0_checkBoundsBeginEnd_23922 2 = .ok (.iload_n 2, 1) := by decide +kernel
theorem dJ0_checkBoundsBeginEnd_23922_3 : decode cJ0_checkBoundsBeginEnd_23922 3 = .ok (.getstatic 1053, 3) := by decide +kernel
theorem dJ0_checkBoundsBeginEnd_23922_6 : decode cJ0_checkBoundsBeginEnd_23922 6 = .ok (.invokestatic 1062, 3) := by decide +kernel
theorem dJ0_checkBoundsBeginEnd_23922_9 : decode cJ0_checkBoundsBeginEnd_23922 9 = .ok (.pop, 1) := by decide +kernel
theorem dJ0_checkBoundsBeginEnd_23922_10 : decode cJ0_checkBoundsBeginEnd_23922 10 = .ok (.return_, 1) := by decide +kernel
theorem dJ1_charAt_3b067_0 : decode cJ1_charAt_3b067 0 = .ok (.iload_n 1, 1) := by decide +kernel
theorem dJ1_charAt_3b067_1 : decode cJ1_charAt_3b067 1 = .ok (.aload_n 0, 1) := by decide +kernel
theorem dJ1_charAt_3b067_2 : decode cJ1_charAt_3b067 2 = .ok (.arraylength, 1) := by decide +kernel
theorem dJ1_charAt_3b067_3 : decode cJ1_charAt_3b067 3 = .ok (.invokestatic 9, 3) := by decide +kernel
theorem dJ1_charAt_3b067_6 : decode cJ1_charAt_3b067 6 = .ok (.aload_n 0, 1) := by decide +kernel
theorem dJ1_charAt_3b067_7 : decode cJ1_charAt_3b067 7 = .ok (.iload_n 1, 1) := by decide +kernel
theorem dJ1_charAt_3b067_8 : decode cJ1_charAt_3b067 8 = .ok (.baload, 1) := by decide +kernel
theorem dJ1_charAt_3b067_9 : decode cJ1_charAt_3b067 9 = .ok (.sipush 255, 3) := by decide +kernel
theorem dJ1_charAt_3b067_12 : decode cJ1_charAt_3b067 12 = .ok (.iand, 1) := by decide +kernel
theorem dJ1_charAt_3b067_13 : decode cJ1_charAt_3b067 13 = .ok (.i2c, 1) := by decide +kernel
theorem dJ1_charAt_3b067_14 : decode cJ1_charAt_3b067 14 = .ok (.ireturn, 1) := by decide +kernel
theorem dJ1_canEncode_9a6ad_0 : decode cJ1_canEncode_9a6ad 0 = .ok (.iload_n 0, 1) := by decide +kernel
theorem dJ1_canEncode_9a6ad_1 : decode cJ1_canEncode_9a6ad 1 = .ok (.ifCond .lt 14, 3) := by decide +kernel
theorem dJ1_canEncode_9a6ad_4 : decode cJ1_canEncode_9a6ad 4 = .ok (.iload_n 0, 1) := by decide +kernel
theorem dJ1_canEncode_9a6ad_5 : decode cJ1_canEncode_9a6ad 5 = .ok (.sipush 255, 3) := by decide +kernel
theorem dJ1_canEncode_9a6ad_8 : decode cJ1_canEncode_9a6ad 8 = .ok (.if_icmp .gt 7, 3) := by decide +kernel
theorem dJ1_canEncode_9a6ad_11 : decode cJ1_canEncode_9a6ad 11 = .ok (.iconst 1, 1) := by decide +kernel
theorem dJ1_canEncode_9a6ad_12 : decode cJ1_canEncode_9a6ad 12 = .ok (.goto 4, 3) := by decide +kernel
theorem dJ1_canEncode_9a6ad_15 : decode cJ1_canEncode_9a6ad 15 = .ok (.iconst 0, 1) := by decide +kernel
theorem dJ1_canEncode_9a6ad_16 : decode cJ1_canEncode_9a6ad 16 = .ok (.ireturn, 1) := by decide +kernel
theorem dJ1_indexOf_4cfef_0 : decode cJ1_indexOf_4cfef 0 = .ok (.iload_n 1, 1) := by decide +kernel
theorem dJ1_indexOf_4cfef_1 : decode cJ1_indexOf_4cfef 1 = .ok (.invokestatic 88, 3) := by decide +kernel
theorem dJ1_indexOf_4cfef_4 : decode cJ1_indexOf_4cfef 4 = .ok (.ifCond .ne 5, 3) := by decide +kernel
theorem dJ1_indexOf_4cfef_7 : decode cJ1_indexOf_4cfef 7 = .ok (.iconst (-1), 1) := by decide +kernel
theorem dJ1_indexOf_4cfef_8 : decode cJ1_indexOf_4cfef 8 = .ok (.ireturn, 1) := by decide +kernel
theorem dJ1_indexOf_4cfef_9 : decode cJ1_indexOf_4cfef 9 = .ok (.iload_n 2, 1) := by decide +kernel
theorem dJ1_indexOf_4cfef_10 : decode cJ1_indexOf_4cfef 10 = .ok (.iconst 0, 1) := by decide +kernel
theorem dJ1_indexOf_4cfef_11 : decode cJ1_indexOf_4cfef 11 = .ok (.invokestatic 92, 3) := by decide +kernel
theorem dJ1_indexOf_4cfef_14 : decode cJ1_indexOf_4cfef 14 = .ok (.istore_n 2, 1) := by decide +kernel
theorem dJ1_indexOf_4cfef_15 : decode cJ1_indexOf_4cfef 15 = .ok (.iload_n 3, 1) := by decide +kernel
theorem dJ1_indexOf_4cfef_16 : decode cJ1_indexOf_4cfef 16 = .ok (.aload_n 0, 1) := by decide +kernel
theorem dJ1_indexOf_4cfef_17 : decode cJ1_indexOf_4cfef 17 = .ok (.arraylength, 1) := by decide +kernel
theorem dJ1_indexOf_4cfef_18 : decode cJ1_indexOf_4cfef 18 = .ok (.invokestatic 38, 3) := by decide +kernel
theorem dJ1_indexOf_4cfef_21 : decode cJ1_indexOf_4cfef 21 = .ok (.istore_n 3, 1) := by decide +kernel
theorem dJ1_indexOf_4cfef_22 : decode cJ1_indexOf_4cfef 22 = .ok (.iload_n 2, 1) := by decide +kernel
theorem dJ1_indexOf_4cfef_23 : decode cJ1_indexOf_4cfef 23 = .ok (.iload_n 3, 1) := by decide +kernel
theorem dJ1_indexOf_4cfef_24 : decode cJ1_indexOf_4cfef 24 = .ok (.if_icmp .lt 5, 3) := by decide +kernel
theorem dJ1_indexOf_4cfef_27 : decode cJ1_indexOf_4cfef 27 = .ok (.iconst (-1), 1) := by decide +kernel
theorem dJ1_indexOf_4cfef_28 : decode cJ1_indexOf_4cfef 28 = .ok (.ireturn, 1) := by decide +kernel
theorem dJ1_indexOf_4cfef_29 : decode cJ1_indexOf_4cfef 29 = .ok (.aload_n 0, 1) := by decide +kernel
theorem dJ1_indexOf_4cfef_30 : decode cJ1_indexOf_4cfef 30 = .ok (.iload_n 1, 1) := by decide +kernel
theorem dJ1_indexOf_4cfef_31 : decode cJ1_indexOf_4cfef 31 = .ok (.iload_n 2, 1) := by decide +kernel
theorem dJ1_indexOf_4cfef_32 : decode cJ1_indexOf_4cfef 32 = .ok (.iload_n 3, 1) := by decide +kernel
theorem dJ1_indexOf_4cfef_33 : decode cJ1_indexOf_4cfef 33 = .ok (.invokestatic 95, 3) := by decide +kernel
theorem dJ1_indexOf_4cfef_36 : decode cJ1_indexOf_4cfef 36 = .ok (.ireturn, 1) := by decide +kernel
theorem dJ1_indexOfChar_4cfef_0 : decode cJ1_indexOfChar_4cfef 0 = .ok (.iload_n 1, 1) := by decide +kernel
theorem dJ1_indexOfChar_4cfef_1 : decode cJ1_indexOfChar_4cfef 1 = .ok (.i2b, 1) := by decide +kernel
theorem dJ1_indexOfChar_4cfef_2 : decode cJ1_indexOfChar_4cfef 2 = .ok (.istore 4, 2) := by decide +kernel
theorem dJ1_indexOfChar_4cfef_4 : decode cJ1_indexOfChar_4cfef 4 = .ok (.iload_n 2, 1) := by decide +kernel
theorem dJ1_indexOfChar_4cfef_5 : decode cJ1_indexOfChar_4cfef 5 = .ok (.istore 5, 2) := by decide +kernel
theorem dJ1_indexOfChar_4cfef_7 : decode cJ1_indexOfChar_4cfef 7 = .ok (.iload 5, 2) := by decide +kernel
theorem dJ1_indexOfChar_4cfef_9 : decode cJ1_indexOfChar_4cfef 9 = .ok (.iload_n 3, 1) := by decide +kernel
theorem dJ1_indexOfChar_4cfef_10 : decode cJ1_indexOfChar_4cfef 10 = .ok (.if_icmp .ge 21, 3) := by decide +kernel
theorem dJ1_indexOfChar_4cfef_13 : decode cJ1_indexOfChar_4cfef 13 = .ok (.aload_n 0, 1) := by decide +kernel
theorem dJ1_indexOfChar_4cfef_14 : decode cJ1_indexOfChar_4cfef 14 = .ok (.iload 5, 2) := by decide +kernel
theorem dJ1_indexOfChar_4cfef_16 : decode cJ1_indexOfChar_4cfef 16 = .ok (.baload, 1) := by decide +kernel
theorem dJ1_indexOfChar_4cfef_17 : decode cJ1_indexOfChar_4cfef 17 = .ok (.iload 4, 2) := by decide +kernel
theorem dJ1_indexOfChar_4cfef_19 : decode cJ1_indexOfChar_4cfef 19 = .ok (.if_icmp .ne 6, 3) := by decide +kernel
theorem dJ1_indexOfChar_4cfef_22 : decode cJ1_indexOfChar_4cfef 22 = .ok (.iload 5, 2) := by decide +kernel
theorem dJ1_indexOfChar_4cfef_24 : decode cJ1_indexOfChar_4cfef 24 = .ok (.ireturn, 1) := by decide +kernel
theorem dJ1_indexOfChar_4cfef_25 : decode cJ1_indexOfChar_4cfef 25 = .ok (.iinc 5 1, 3) := by decide +kernel
theorem dJ1_indexOfChar_4cfef_28 : decode cJ1_indexOfChar_4cfef 28 = .ok (.goto (-21), 3) := by decide +kernel
theorem dJ1_indexOfChar_4cfef_31 : decode cJ1_indexOfChar_4cfef 31 = .ok (.iconst (-1), 1) := by decide +kernel
theorem dJ1_indexOfChar_4cfef_32 : decode cJ1_indexOfChar_4cfef 32 = .ok (.ireturn, 1) := by decide +kernel
theorem dJ2_getChar_3b067_0 : decode cJ2_getChar_3b067 0 = .ok (.getstatic 44, 3) := by decide +kernel
theorem dJ2_getChar_3b067_3 : decode cJ2_getChar_3b067 3 = .ok (.ifCond .ne 25, 3) := by decide +kernel
theorem dJ2_getChar_3b067_6 : decode cJ2_getChar_3b067 6 = .ok (.iload_n 1, 1) := by decide +kernel
theorem dJ2_getChar_3b067_7 : decode cJ2_getChar_3b067 7 = .ok (.ifCond .lt 11, 3) := by decide +kernel
theorem dJ2_getChar_3b067_10 : decode cJ2_getChar_3b067 10 = .ok (.iload_n 1, 1) := by decide +kernel
theorem dJ2_getChar_3b067_11 : decode cJ2_getChar_3b067 11 = .ok (.aload_n 0, 1) := by decide +kernel
theorem dJ2_getChar_3b067_12 : decode cJ2_getChar_3b067 12 = .ok (.invokestatic 48, 3) := by decide +kernel
theorem dJ2_getChar_3b067_15 : decode cJ2_getChar_3b067 15 = .ok (.if_icmp .lt 13, 3) := by decide +kernel
theorem dJ2_getChar_3b067_18 : decode cJ2_getChar_3b067 18 = .ok (.new 52, 3) := by decide +kernel
theorem dJ2_getChar_3b067_21 : decode cJ2_getChar_3b067 21 = .ok (.dup, 1) := by decide +kernel
theorem dJ2_getChar_3b067_22 : decode cJ2_getChar_3b067 22 = .ok (.ldc 54, 2) := by decide +kernel
theorem dJ2_getChar_3b067_24 : decode cJ2_getChar_3b067 24 = .ok (.invokespecial 56, 3) := by decide +kernel
theorem dJ2_getChar_3b067_27 : decode cJ2_getChar_3b067 27 = .ok (.athrow, 1) := by decide +kernel
theorem dJ2_getChar_3b067_28 : decode cJ2_getChar_3b067 28 = .ok (.iload_n 1, 1) := by decide +kernel
theorem dJ2_getChar_3b067_29 : decode cJ2_getChar_3b067 29 = .ok (.iconst 1, 1) := by decide +kernel
theorem dJ2_getChar_3b067_30 : decode cJ2_getChar_3b067 30 = .ok (.ishl, 1) := by decide +kernel
theorem dJ2_getChar_3b067_31 : decode cJ2_getChar_3b067 31 = .ok (.istore_n 1, 1) := by decide +kernel
theorem dJ2_getChar_3b067_32 : decode cJ2_getChar_3b067 32 = .ok (.aload_n 0, 1) := by decide +kernel
theorem dJ2_getChar_3b067_33 : decode cJ2_getChar_3b067 33 = .ok (.iload_n 1, 1) := by decide +kernel
theorem dJ2_getChar_3b067_34 : decode cJ2_getChar_3b067 34 = .ok (.iinc 1 1, 3) := by decide +kernel
theorem dJ2_getChar_3b067_37 : decode cJ2_getChar_3b067 37 = .ok (.baload, 1) := by decide +kernel
theorem dJ2_getChar_3b067_38 : decode cJ2_getChar_3b067 38 = .ok (.sipush 255, 3) := by decide +kernel
theorem dJ2_getChar_3b067_41 : decode cJ2_getChar_3b067 41 = .ok (.iand, 1) := by decide +kernel
theorem dJ2_getChar_3b067_42 : decode cJ2_getChar_3b067 42 = .ok (.getstatic 59, 3) := by decide +kernel
theorem dJ2_getChar_3b067_45 : decode cJ2_getChar_3b067 45 = .ok (.ishl, 1) := by decide +kernel
theorem dJ2_getChar_3b067_46 : decode cJ2_getChar_3b067 46 = .ok (.aload_n 0, 1) := by decide +kernel
theorem dJ2_getChar_3b067_47 : decode cJ2_getChar_3b067 47 = .ok (.iload_n 1, 1) := by decide +kernel
theorem dJ2_getChar_3b067_48 : decode cJ2_getChar_3b067 48 = .ok (.baload, 1) := by decide +kernel
theorem dJ2_getChar_3b067_49 : decode cJ2_getChar_3b067 49 = .ok (.sipush 255, 3) := by decide +kernel
theorem dJ2_getChar_3b067_52 : decode cJ2_getChar_3b067 52 = .ok (.iand, 1) := by decide +kernel
theorem dJ2_getChar_3b067_53 : decode cJ2_getChar_3b067 53 = .ok (.getstatic 63, 3) := by decide +kernel
theorem dJ2_getChar_3b067_56 : decode cJ2_getChar_3b067 56 = .ok (.ishl, 1) := by decide +kernel
theorem dJ2_getChar_3b067_57 : decode cJ2_getChar_3b067 57 = .ok (.ior, 1) := by decide +kernel
theorem dJ2_getChar_3b067_58 : decode cJ2_getChar_3b067 58 = .ok (.i2c, 1) := by decide +kernel
theorem dJ2_getChar_3b067_59 : decode cJ2_getChar_3b067 59 = .ok (.ireturn, 1) := by decide +kernel
theorem dJ2_length_9d52b_0 : decode cJ2_length_9d52b 0 = .ok (.aload_n 0, 1) := by decide +kernel
theorem dJ2_length_9d52b_1 : decode cJ2_length_9d52b 1 = .ok (.arraylength, 1) := by decide +kernel
theorem dJ2_length_9d52b_2 : decode cJ2_length_9d52b 2 = .ok (.iconst 1, 1) := by decide +kernel
theorem dJ2_length_9d52b_3 : decode cJ2_length_9d52b 3 = .ok (.ishr, 1) := by decide +kernel
theorem dJ2_length_9d52b_4 : decode cJ2_length_9d52b 4 = .ok (.ireturn, 1) := by decide +kernel
theorem dJ2_indexOf_4cfef_0 : decode cJ2_indexOf_4cfef 0 = .ok (.iload_n 2, 1) := by decide +kernel
theorem dJ2_indexOf_4cfef_1 : decode cJ2_indexOf_4cfef 1 = .ok (.iconst 0, 1) := by decide +kernel
theorem dJ2_indexOf_4cfef_2 : decode cJ2_indexOf_4cfef 2 = .ok (.invokestatic 224, 3) := by decide +kernel
theorem dJ2_indexOf_4cfef_5 : decode cJ2_indexOf_4cfef 5 = .ok (.istore_n 2, 1) := by decide +kernel
theorem dJ2_indexOf_4cfef_6 : decode cJ2_indexOf_4cfef 6 = .ok (.iload_n 3, 1) := by decide +kernel
theorem dJ2_indexOf_4cfef_7 : decode cJ2_indexOf_4cfef 7 = .ok (.aload_n 0, 1) := by decide +kernel
theorem dJ2_indexOf_4cfef_8 : decode cJ2_indexOf_4cfef 8 = .ok (.arraylength, 1) := by decide +kernel
theorem dJ2_indexOf_4cfef_9 : decode cJ2_indexOf_4cfef 9 = .ok (.iconst 1, 1) := by decide +kernel
theorem dJ2_indexOf_4cfef_10 : decode cJ2_indexOf_4cfef 10 = .ok (.ishr, 1) := by decide +kernel
theorem dJ2_indexOf_4cfef_11 : decode cJ2_indexOf_4cfef 11 = .ok (.invokestatic 183, 3) := by decide +kernel
theorem dJ2_indexOf_4cfef_14 : decode cJ2_indexOf_4cfef 14 = .ok (.istore_n 3, 1) := by decide +kernel
theorem dJ2_indexOf_4cfef_15 : decode cJ2_indexOf_4cfef 15 = .ok (.iload_n 2, 1) := by decide +kernel
theorem dJ2_indexOf_4cfef_16 : decode cJ2_indexOf_4cfef 16 = .ok (.iload_n 3, 1) := by decide +kernel
theorem dJ2_indexOf_4cfef_17 : decode cJ2_indexOf_4cfef 17 = .ok (.if_icmp .lt 5, 3) := by decide +kernel
theorem dJ2_indexOf_4cfef_20 : decode cJ2_indexOf_4cfef 20 = .ok (.iconst (-1), 1) := by decide +kernel
theorem dJ2_indexOf_4cfef_21 : decode cJ2_indexOf_4cfef 21 = .ok (.ireturn, 1) := by decide +kernel
theorem dJ2_indexOf_4cfef_22 : decode cJ2_indexOf_4cfef 22 = .ok (.iload_n 1, 1) := by decide +kernel
theorem dJ2_indexOf_4cfef_23 : decode cJ2_indexOf_4cfef 23 = .ok (.ldc 227, 2) := by decide +kernel
theorem dJ2_indexOf_4cfef_25 : decode cJ2_indexOf_4cfef 25 = .ok (.if_icmp .ge 11, 3) := by decide +kernel
theorem dJ2_indexOf_4cfef_28 : decode cJ2_indexOf_4cfef 28 = .ok (.aload_n 0, 1) := by decide +kernel
theorem dJ2_indexOf_4cfef_29 : decode cJ2_indexOf_4cfef 29 = .ok (.iload_n 1, 1) := by decide +kernel
theorem dJ2_indexOf_4cfef_30 : decode cJ2_indexOf_4cfef 30 = .ok (.iload_n 2, 1) := by decide +kernel
theorem dJ2_indexOf_4cfef_31 : decode cJ2_indexOf_4cfef 31 = .ok (.iload_n 3, 1) := by decide +kernel
theorem dJ2_indexOf_4cfef_32 : decode cJ2_indexOf_4cfef 32 = .ok (.invokestatic 228, 3) := by decide +kernel
theorem dJ2_indexOf_4cfef_35 : decode cJ2_indexOf_4cfef 35 = .ok (.ireturn, 1) := by decide +kernel
theorem dJ2_indexOf_4cfef_36 : decode cJ2_indexOf_4cfef 36 = .ok (.aload_n 0, 1) := by decide +kernel
theorem dJ2_indexOf_4cfef_37 : decode cJ2_indexOf_4cfef 37 = .ok (.iload_n 1, 1) := by decide +kernel
theorem dJ2_indexOf_4cfef_38 : decode cJ2_indexOf_4cfef 38 = .ok (.iload_n 2, 1) := by decide +kernel
theorem dJ2_indexOf_4cfef_39 : decode cJ2_indexOf_4cfef 39 = .ok (.iload_n 3, 1) := by decide +kernel
theorem dJ2_indexOf_4cfef_40 : decode cJ2_indexOf_4cfef 40 = .ok (.invokestatic 232, 3) := by decide +kernel
theorem dJ2_indexOf_4cfef_43 : decode cJ2_indexOf_4cfef 43 = .ok (.ireturn, 1) := by decide +kernel
theorem dJ2_indexOfChar_4cfef_0 : decode cJ2_indexOfChar_4cfef 0 = .ok (.iload_n 2, 1) := by decide +kernel
theorem dJ2_indexOfChar_4cfef_1 : decode cJ2_indexOfChar_4cfef 1 = .ok (.iload_n 3, 1) := by decide +kernel
theorem dJ2_indexOfChar_4cfef_2 : decode cJ2_indexOfChar_4cfef 2 = .ok (.aload_n 0, 1) := by decide +kernel
theorem dJ2_indexOfChar_4cfef_3 : decode cJ2_indexOfChar_4cfef 3 = .ok (.invokestatic 96, 3) := by decide +kernel
theorem dJ2_indexOfChar_4cfef_6 : decode cJ2_indexOfChar_4cfef 6 = .ok (.aload_n 0, 1) := by decide +kernel
theorem dJ2_indexOfChar_4cfef_7 : decode cJ2_indexOfChar_4cfef 7 = .ok (.iload_n 1, 1) := by decide +kernel
theorem dJ2_indexOfChar_4cfef_8 : decode cJ2_indexOfChar_4cfef 8 = .ok (.iload_n 2, 1) := by decide +kernel
theorem dJ2_indexOfChar_4cfef_9 : decode cJ2_indexOfChar_4cfef 9 = .ok (.iload_n 3, 1) := by decide +kernel
theorem dJ2_indexOfChar_4cfef_10 : decode cJ2_indexOfChar_4cfef 10 = .ok (.invokestatic 244, 3) := by decide +kernel
theorem dJ2_indexOfChar_4cfef_13 : decode cJ2_indexOfChar_4cfef 13 = .ok (.ireturn, 1) := by decide +kernel
theorem dJ2_indexOfCharUnsafe_4cfef_0 : decode cJ2_indexOfCharUnsafe_4cfef 0 = .ok (.iload_n 2, 1) := by decide +kernel
theorem dJ2_indexOfCharUnsafe_4cfef_1 : decode cJ2_indexOfCharUnsafe_4cfef 1 = .ok (.istore 4, 2) := by decide +kernel
theorem dJ2_indexOfCharUnsafe_4cfef_3 : decode cJ2_indexOfCharUnsafe_4cfef 3 = .ok (.iload 4, 2) := by decide +kernel
theorem dJ2_indexOfCharUnsafe_4cfef_5 : decode cJ2_indexOfCharUnsafe_4cfef 5 = .ok (.iload_n 3, 1) := by decide +kernel
theorem dJ2_indexOfCharUnsafe_4cfef_6 : decode cJ2_indexOfCharUnsafe_4cfef 6 = .ok (.if_icmp .ge 22, 3) := by decide +kernel
theorem dJ2_indexOfCharUnsafe_4cfef_9 : decode cJ2_indexOfCharUnsafe_4cfef 9 = .ok (.aload_n 0, 1) := by decide +kernel
theorem dJ2_indexOfCharUnsafe_4cfef_10 : decode cJ2_indexOfCharUnsafe_4cfef 10 = .ok (.iload 4, 2) := by decide +kernel
theorem dJ2_indexOfCharUnsafe_4cfef_12 : decode cJ2_indexOfCharUnsafe_4cfef 12 = .ok (.invokestatic 71, 3) := by decide +kernel
theorem dJ2_indexOfCharUnsafe_4cfef_15 : decode cJ2_indexOfCharUnsafe_4cfef 15 = .ok (.iload_n 1, 1) := by decide +kernel
theorem dJ2_indexOfCharUnsafe_4cfef_16 : decode cJ2_indexOfCharUnsafe_4cfef 16 = .ok (.if_icmp .ne 6, 3) := by decide +kernel
theorem dJ2_indexOfCharUnsafe_4cfef_19 : decode cJ2_indexOfCharUnsafe_4cfef 19 = .ok (.iload 4, 2) := by decide +kernel
theorem dJ2_indexOfCharUnsafe_4cfef_21 : decode cJ2_indexOfCharUnsafe_4cfef 21 = .ok (.ireturn, 1) := by decide +kernel
theorem dJ2_indexOfCharUnsafe_4cfef_22 : decode cJ2_indexOfCharUnsafe_4cfef 22 = .ok (.iinc 4 1, 3) := by decide +kernel
theorem dJ2_indexOfCharUnsafe_4cfef_25 : decode cJ2_indexOfCharUnsafe_4cfef 25 = .ok (.goto (-22), 3) := by decide +kernel
theorem dJ2_indexOfCharUnsafe_4cfef_28 : decode cJ2_indexOfCharUnsafe_4cfef 28 = .ok (.iconst (-1), 1) := by decide +kernel
theorem dJ2_indexOfCharUnsafe_4cfef_29 : decode cJ2_indexOfCharUnsafe_4cfef 29 = .ok (.ireturn, 1) := by decide +kernel
theorem dJ2_indexOfSupplementary_4cfef_0 : decode cJ2_indexOfSupplementary_4cfef 0 = .ok (.iload_n 1, 1) := by decide +kernel
theorem dJ2_indexOfSupplementary_4cfef_1 : decode cJ2_indexOfSupplementary_4cfef 1 = .ok (.invokestatic 164, 3) := by decide +kernel
theorem dJ2_indexOfSupplementary_4cfef_4 : decode cJ2_indexOfSupplementary_4cfef 4 = .ok (.ifCond .eq 65, 3) := by decide +kernel
theorem dJ2_indexOfSupplementary_4cfef_7 : decode cJ2_indexOfSupplementary_4cfef 7 = .ok (.iload_n 1, 1) := by decide +kernel
theorem dJ2_indexOfSupplementary_4cfef_8 : decode cJ2_indexOfSupplementary_4cfef 8 = .ok (.invokestatic 157, 3) := by decide +kernel
theorem dJ2_indexOfSupplementary_4cfef_11 : decode cJ2_indexOfSupplementary_4cfef 11 = .ok (.istore 4, 2) := by decide +kernel
theorem dJ2_indexOfSupplementary_4cfef_13 : decode cJ2_indexOfSupplementary_4cfef 13 = .ok (.iload_n 1, 1) := by decide +kernel
theorem dJ2_indexOfSupplementary_4cfef_14 : decode cJ2_indexOfSupplementary_4cfef 14 = .ok (.invokestatic 161, 3) := by decide +kernel
theorem dJ2_indexOfSupplementary_4cfef_17 : decode cJ2_indexOfSupplementary_4cfef 17 = .ok (.istore 5, 2) := by decide +kernel
theorem dJ2_indexOfSupplementary_4cfef_19 : decode cJ2_indexOfSupplementary_4cfef 19 = .ok (.iload_n 2, 1) := by decide +kernel
theorem dJ2_indexOfSupplementary_4cfef_20 : decode cJ2_indexOfSupplementary_4cfef 20 = .ok (.iload_n 3, 1) := by decide +kernel
theorem dJ2_indexOfSupplementary_4cfef_21 : decode cJ2_indexOfSupplementary_4cfef 21 = .ok (.aload_n 0, 1) := by decide +kernel
theorem dJ2_indexOfSupplementary_4cfef_22 : decode cJ2_indexOfSupplementary_4cfef 22 = .ok (.invokestatic 96, 3) := by decide +kernel
theorem dJ2_indexOfSupplementary_4cfef_25 : decode cJ2_indexOfSupplementary_4cfef 25 = .ok (.iload_n 2, 1) := by decide +kernel
theorem dJ2_indexOfSupplementary_4cfef_26 : decode cJ2_indexOfSupplementary_4cfef 26 = .ok (.istore 6, 2) := by decide +kernel
theorem dJ2_indexOfSupplementary_4cfef_28 : decode cJ2_indexOfSupplementary_4cfef 28 = .ok (.iload 6, 2) := by decide +kernel
theorem dJ2_indexOfSupplementary_4cfef_30 : decode cJ2_indexOfSupplementary_4cfef 30 = .ok (.iload_n 3, 1) := by decide +kernel
theorem dJ2_indexOfSupplementary_4cfef_31 : decode cJ2_indexOfSupplementary_4cfef 31 = .ok (.iconst 1, 1) := by decide +kernel
theorem dJ2_indexOfSupplementary_4cfef_32 : decode cJ2_indexOfSupplementary_4cfef 32 = .ok (.isub, 1) := by decide +kernel
theorem dJ2_indexOfSupplementary_4cfef_33 : decode cJ2_indexOfSupplementary_4cfef 33 = .ok (.if_icmp .ge 36, 3) := by decide +kernel
theorem dJ2_indexOfSupplementary_4cfef_36 : decode cJ2_indexOfSupplementary_4cfef 36 = .ok (.aload_n 0, 1) := by decide +kernel
theorem dJ2_indexOfSupplementary_4cfef_37 : decode cJ2_indexOfSupplementary_4cfef 37 = .ok (.iload 6, 2) := by decide +kernel
theorem dJ2_indexOfSupplementary_4cfef_39 : decode cJ2_indexOfSupplementary_4cfef 39 = .ok (.invokestatic 71, 3) := by decide +kernel
theorem dJ2_indexOfSupplementary_4cfef_42 : decode cJ2_indexOfSupplementary_4cfef 42 = .ok (.iload 4, 2) := by decide +kernel
theorem dJ2_indexOfSupplementary_4cfef_44 : decode cJ2_indexOfSupplementary_4cfef 44 = .ok (.if_icmp .ne 19, 3) := by decide +kernel
theorem dJ2_indexOfSupplementary_4cfef_47 : decode cJ2_indexOfSupplementary_4cfef 47 = .ok (.aload_n 0, 1) := by decide +kernel
theorem dJ2_indexOfSupplementary_4cfef_48 : decode cJ2_indexOfSupplementary_4cfef 48 = .ok (.iload 6, 2) := by decide +kernel
theorem dJ2_indexOfSupplementary_4cfef_50 : decode cJ2_indexOfSupplementary_4cfef 50 = .ok (.iconst 1, 1) := by decide +kernel
theorem dJ2_indexOfSupplementary_4cfef_51 : decode cJ2_indexOfSupplementary_4cfef 51 = .ok (.iadd, 1) := by decide +kernel
theorem dJ2_indexOfSupplementary_4cfef_52 : decode cJ2_indexOfSupplementary_4cfef 52 = .ok (.invokestatic 71, 3) := by decide +kernel
theorem dJ2_indexOfSupplementary_4cfef_55 : decode cJ2_indexOfSupplementary_4cfef 55 = .ok (.iload 5, 2) := by decide +kernel
theorem dJ2_indexOfSupplementary_4cfef_57 : decode cJ2_indexOfSupplementary_4cfef 57 = .ok (.if_icmp .ne 6, 3) := by decide +kernel
theorem dJ2_indexOfSupplementary_4cfef_60 : decode cJ2_indexOfSupplementary_4cfef 60 = .ok (.iload 6, 2) := by decide +kernel
theorem dJ2_indexOfSupplementary_4cfef_62 : decode cJ2_indexOfSupplementary_4cfef 62 = .ok (.ireturn, 1) := by decide +kernel
theorem dJ2_indexOfSupplementary_4cfef_63 : decode cJ2_indexOfSupplementary_4cfef 63 = .ok (.iinc 6 1, 3) := by decide +kernel
theorem dJ2_indexOfSupplementary_4cfef_66 : decode cJ2_indexOfSupplementary_4cfef 66 = .ok (.goto (-38), 3) := by decide +kernel
theorem dJ2_indexOfSupplementary_4cfef_69 : decode cJ2_indexOfSupplementary_4cfef 69 = .ok (.iconst (-1), 1) := by decide +kernel
theorem dJ2_indexOfSupplementary_4cfef_70 : decode cJ2_indexOfSupplementary_4cfef 70 = .ok (.ireturn, 1) := by decide +kernel
theorem dJ2_charAt_3b067_0 : decode cJ2_charAt_3b067 0 = .ok (.iload_n 1, 1) := by decide +kernel
theorem dJ2_charAt_3b067_1 : decode cJ2_charAt_3b067 1 = .ok (.aload_n 0, 1) := by decide +kernel
theorem dJ2_charAt_3b067_2 : decode cJ2_charAt_3b067 2 = .ok (.invokestatic 67, 3) := by decide +kernel
theorem dJ2_charAt_3b067_5 : decode cJ2_charAt_3b067 5 = .ok (.aload_n 0, 1) := by decide +kernel
theorem dJ2_charAt_3b067_6 : decode cJ2_charAt_3b067 6 = .ok (.iload_n 1, 1) := by decide +kernel
theorem dJ2_charAt_3b067_7 : decode cJ2_charAt_3b067 7 = .ok (.invokestatic 71, 3) := by decide +kernel
theorem dJ2_charAt_3b067_10 : decode cJ2_charAt_3b067 10 = .ok (.ireturn, 1) := by decide +kernel
theorem dJ2_checkIndex_2214a_0 : decode cJ2_checkIndex_2214a 0 = .ok (.iload_n 0, 1) := by decide +kernel
theorem dJ2_checkIndex_2214a_1 : decode cJ2_checkIndex_2214a 1 = .ok (.aload_n 1, 1) := by decide +kernel
theorem dJ2_checkIndex_2214a_2 : decode cJ2_checkIndex_2214a 2 = .ok (.invokestatic 48, 3) := by decide +kernel
theorem dJ2_checkIndex_2214a_5 : decode cJ2_checkIndex_2214a 5 = .ok (.invokestatic 414, 3) := by decide +kernel
theorem dJ2_checkIndex_2214a_8 : decode cJ2_checkIndex_2214a 8 = .ok (.return_, 1) := by decide +kernel
theorem dJ2_checkBoundsBeginEnd_d044e_0 : decode cJ2_checkBoundsBeginEnd_d044e 0 = .ok (.iload_n 0, 1) := by decide +kernel
theorem dJ2_checkBoundsBeginEnd_d044e_1 : decode cJ2_checkBoundsBeginEnd_d044e 1 = .ok (.iload_n 1, 1) := by decide +kernel
theorem dJ2_checkBoundsBeginEnd_d044e_2 : decode cJ2_checkBoundsBeginEnd_d044e 2 = .ok (.aload_n 2, 1) := by decide +kernel
theorem dJ2_checkBoundsBeginEnd_d044e_3 : decode cJ2_checkBoundsBeginEnd_d044e 3 = .ok (.invokestatic 48, 3) := by decide +kernel
theorem dJ2_checkBoundsBeginEnd_d044e_6 : decode cJ2_checkBoundsBeginEnd_d044e 6 = .ok (.invokestatic 241, 3) := by decide +kernel
theorem dJ2_checkBoundsBeginEnd_d044e_9 : decode cJ2_checkBoundsBeginEnd_d044e 9 = .ok (.return_, 1) := by decide +kernel
theorem dJ3_checkIndex_8e157_0 : decode cJ3_checkIndex_8e157 0 = .ok (.iload_n 0, 1) := by decide +kernel
theorem dJ3_checkIndex_8e157_1 : decode cJ3_checkIndex_8e157 1 = .ok (.ifCond .lt 8, 3) := by decide +kernel
theorem dJ3_checkIndex_8e157_4 : decode cJ3_checkIndex_8e157 4 = .ok (.iload_n 0, 1) := by decide +kernel
theorem dJ3_checkIndex_8e157_5 : decode cJ3_checkIndex_8e157 5 = .ok (.iload_n 1, 1) := by decide +kernel
theorem dJ3_checkIndex_8e157_6 : decode cJ3_checkIndex_8e157 6 = .ok (.if_icmp .lt 10, 3) := by decide +kernel
theorem dJ3_checkIndex_8e157_9 : decode cJ3_checkIndex_8e157 9 = .ok (.aload_n 2, 1) := by decide +kernel
theorem dJ3_checkIndex_8e157_10 : decode cJ3_checkIndex_8e157 10 = .ok (.iload_n 0, 1) := by decide +kernel
theorem dJ3_checkIndex_8e157_11 : decode cJ3_checkIndex_8e157 11 = .ok (.iload_n 1, 1) := by decide +kernel
theorem dJ3_checkIndex_8e157_12 : decode cJ3_checkIndex_8e157 12 = .ok (.invokestatic 95, 3) := by decide +kernel
theorem dJ3_checkIndex_8e157_15 : decode cJ3_checkIndex_8e157 15 = .ok (.athrow, 1) := by decide +kernel
theorem dJ3_checkIndex_8e157_16 : decode cJ3_checkIndex_8e157 16 = .ok (.iload_n 0, 1) := by decide +kernel
theorem dJ3_checkIndex_8e157_17 : decode cJ3_checkIndex_8e157 17 = .ok (.ireturn, 1) := by decide +kernel
theorem dJ3_checkFromToIndex_8c36e_0 : decode cJ3_checkFromToIndex_8c36e 0 = .ok (.iload_n 0, 1) := by decide +kernel
theorem dJ3_checkFromToIndex_8c36e_1 : decode cJ3_checkFromToIndex_8c36e 1 = .ok (.ifCond .lt 13, 3) := by decide +kernel
theorem dJ3_checkFromToIndex_8c36e_4 : decode cJ3_checkFromToIndex_8c36e 4 = .ok (.iload_n 0, 1) := by decide +kernel
theorem dJ3_checkFromToIndex_8c36e_5 : decode cJ3_checkFromToIndex_8c36e 5 = .ok (.iload_n 1, 1) := by decide +kernel
theorem dJ3_checkFromToIndex_8c36e_6 : decode cJ3_checkFromToIndex_8c36e 6 = .ok (.if_icmp .gt 8, 3) := by decide +kernel
theorem dJ3_checkFromToIndex_8c36e_9 : decode cJ3_checkFromToIndex_8c36e 9 = .ok (.iload_n 1, 1) := by decide +kernel
theorem dJ3_checkFromToIndex_8c36e_10 : decode cJ3_checkFromToIndex_8c36e 10 = .ok (.iload_n 2, 1) := by decide +kernel
theorem dJ3_checkFromToIndex_8c36e_11 : decode cJ3_checkFromToIndex_8c36e 11 = .ok (.if_icmp .le 11, 3) := by decide +kernel
theorem dJ3_checkFromToIndex_8c36e_14 : decode cJ3_checkFromToIndex_8c36e 14 = .ok (.aload_n 3, 1) := by decide +kernel
theorem dJ3_checkFromToIndex_8c36e_15 : decode cJ3_checkFromToIndex_8c36e 15 = .ok (.iload_n 0, 1) := by decide +kernel
theorem dJ3_checkFromToIndex_8c36e_16 : decode cJ3_checkFromToIndex_8c36e 16 = .ok (.iload_n 1, 1) := by decide +kernel
theorem dJ3_checkFromToIndex_8c36e_17 : decode cJ3_checkFromToIndex_8c36e 17 = .ok (.iload_n 2, 1) := by decide +kernel
theorem dJ3_checkFromToIndex_8c36e_18 : decode cJ3_checkFromToIndex_8c36e 18 = .ok (.invokestatic 99, 3) := by decide +kernel
theorem dJ3_checkFromToIndex_8c36e_21 : decode cJ3_checkFromToIndex_8c36e 21 = .ok (.athrow, 1) := by decide +kernel
theorem dJ3_checkFromToIndex_8c36e_22 : decode cJ3_checkFromToIndex_8c36e 22 = .ok (.iload_n 0, 1) := by decide +kernel
theorem dJ3_checkFromToIndex_8c36e_23 : decode cJ3_checkFromToIndex_8c36e 23 = .ok (.ireturn, 1) := by decide +kernel
theorem dJ11_isValidCodePoint_9a6ad_0 : decode cJ11_isValidCodePoint_9a6ad 0 = .ok (.iload_n 0, 1) := by decide +kernel
theorem dJ11_isValidCodePoint_9a6ad_1 : decode cJ11_isValidCodePoint_9a6ad 1 = .ok (.bipush 16, 2) := by decide +kernel
theorem dJ11_isValidCodePoint_9a6ad_3 : decode cJ11_isValidCodePoint_9a6ad 3 = .ok (.iushr, 1) := by decide +kernel
theorem dJ11_isValidCodePoint_9a6ad_4 : decode cJ11_isValidCodePoint_9a6ad 4 = .ok (.istore_n 1, 1) := by decide +kernel
theorem dJ11_isValidCodePoint_9a6ad_5 : decode cJ11_isValidCodePoint_9a6ad 5 = .ok (.iload_n 1, 1) := by decide +kernel
theorem dJ11_isValidCodePoint_9a6ad_6 : decode cJ11_isValidCodePoint_9a6ad 6 = .ok (.bipush 17, 2) := by decide +kernel
theorem dJ11_isValidCodePoint_9a6ad_8 : decode cJ11_isValidCodePoint_9a6ad 8 = .ok (.if_icmp .ge 7, 3) := by decide +kernel
theorem dJ11_isValidCodePoint_9a6ad_11 : decode cJ11_isValidCodePoint_9a6ad 11 = .ok (.iconst 1, 1) := by decide +kernel
theorem dJ11_isValidCodePoint_9a6ad_12 : decode cJ11_isValidCodePoint_9a6ad 12 = .ok (.goto 4, 3) := by decide +kernel
theorem dJ11_isValidCodePoint_9a6ad_15 : decode cJ11_isValidCodePoint_9a6ad 15 = .ok (.iconst 0, 1) := by decide +kernel
theorem dJ11_isValidCodePoint_9a6ad_16 : decode cJ11_isValidCodePoint_9a6ad 16 = .ok (.ireturn, 1) := by decide +kernel
theorem dJ11_highSurrogate_5068e_0 : decode cJ11_highSurrogate_5068e 0 = .ok (.iload_n 0, 1) := by decide +kernel
theorem dJ11_highSurrogate_5068e_1 : decode cJ11_highSurrogate_5068e 1 = .ok (.bipush 10, 2) := by decide +kernel
theorem dJ11_highSurrogate_5068e_3 : decode cJ11_highSurrogate_5068e 3 = .ok (.iushr, 1) := by decide +kernel
theorem dJ11_highSurrogate_5068e_4 : decode cJ11_highSurrogate_5068e 4 = .ok (.ldc 110, 2) := by decide +kernel
theorem dJ11_highSurrogate_5068e_6 : decode cJ11_highSurrogate_5068e 6 = .ok (.iadd, 1) := by decide +kernel
theorem dJ11_highSurrogate_5068e_7 : decode cJ11_highSurrogate_5068e 7 = .ok (.i2c, 1) := by decide +kernel
theorem dJ11_highSurrogate_5068e_8 : decode cJ11_highSurrogate_5068e 8 = .ok (.ireturn, 1) := by decide +kernel
theorem dJ11_lowSurrogate_5068e_0 : decode cJ11_lowSurrogate_5068e 0 = .ok (.iload_n 0, 1) := by decide +kernel
theorem dJ11_lowSurrogate_5068e_1 : decode cJ11_lowSurrogate_5068e 1 = .ok (.sipush 1023, 3) := by decide +kernel
theorem dJ11_lowSurrogate_5068e_4 : decode cJ11_lowSurrogate_5068e 4 = .ok (.iand, 1) := by decide +kernel
theorem dJ11_lowSurrogate_5068e_5 : decode cJ11_lowSurrogate_5068e 5 = .ok (.ldc 76, 2) := by decide +kernel
theorem dJ11_lowSurrogate_5068e_7 : decode cJ11_lowSurrogate_5068e 7 = .ok (.iadd, 1) := by decide +kernel
theorem dJ11_lowSurrogate_5068e_8 : decode cJ11_lowSurrogate_5068e 8 = .ok (.i2c, 1) := by decide +kernel
theorem dJ11_lowSurrogate_5068e_9 : decode cJ11_lowSurrogate_5068e 9 = .ok (.ireturn, 1) := by decide +kernel

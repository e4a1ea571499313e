theorem dX0_weightOf_0 : decode cX0_weightOf 0 = .ok (.iconst 0, 1) := by decide +kernel
theorem dX0_weightOf_1 : decode cX0_weightOf 1 = .ok (.istore_n 2, 1) := by decide +kernel
theorem dX0_weightOf_2 : decode cX0_weightOf 2 = .ok (.iconst 0, 1) := by decide +kernel
theorem dX0_weightOf_3 : decode cX0_weightOf 3 = .ok (.istore_n 3, 1) := by decide +kernel
theorem dX0_weightOf_4 : decode cX0_weightOf 4 = .ok (.iload_n 3, 1) := by decide +kernel
theorem dX0_weightOf_5 : decode cX0_weightOf 5 = .ok (.aload_n 0, 1) := by decide +kernel
theorem dX0_weightOf_6 : decode cX0_weightOf 6 = .ok (.getfield 7, 3) := by decide +kernel
theorem dX0_weightOf_9 : decode cX0_weightOf 9 = .ok (.if_icmp .ge 32, 3) := by decide +kernel
theorem dX0_weightOf_12 : decode cX0_weightOf 12 = .ok (.iload_n 2, 1) := by decide +kernel
theorem dX0_weightOf_13 : decode cX0_weightOf 13 = .ok (.iload_n 1, 1) := by decide +kernel
theorem dX0_weightOf_14 : decode cX0_weightOf 14 = .ok (.iload_n 3, 1) := by decide +kernel
theorem dX0_weightOf_15 : decode cX0_weightOf 15 = .ok (.invokestatic 13, 3) := by decide +kernel
theorem dX0_weightOf_18 : decode cX0_weightOf 18 = .ok (.ifCond .eq 14, 3) := by decide +kernel
theorem dX0_weightOf_21 : decode cX0_weightOf 21 = .ok (.aload_n 0, 1) := by decide +kernel
theorem dX0_weightOf_22 : decode cX0_weightOf 22 = .ok (.getfield 19, 3) := by decide +kernel
theorem dX0_weightOf_25 : decode cX0_weightOf 25 = .ok (.iload_n 3, 1) := by decide +kernel
theorem dX0_weightOf_26 : decode cX0_weightOf 26 = .ok (.iaload, 1) := by decide +kernel
theorem dX0_weightOf_27 : decode cX0_weightOf 27 = .ok (.iconst 1, 1) := by decide +kernel
theorem dX0_weightOf_28 : decode cX0_weightOf 28 = .ok (.iadd, 1) := by decide +kernel
theorem dX0_weightOf_29 : decode cX0_weightOf 29 = .ok (.goto 4, 3) := by decide +kernel
theorem dX0_weightOf_32 : decode cX0_weightOf 32 = .ok (.iconst 0, 1) := by decide +kernel
theorem dX0_weightOf_33 : decode cX0_weightOf 33 = .ok (.iadd, 1) := by decide +kernel
theorem dX0_weightOf_34 : decode cX0_weightOf 34 = .ok (.istore_n 2, 1) := by decide +kernel
theorem dX0_weightOf_35 : decode cX0_weightOf 35 = .ok (.iinc 3 1, 3) := by decide +kernel
theorem dX0_weightOf_38 : decode cX0_weightOf 38 = .ok (.goto (-34), 3) := by decide +kernel
theorem dX0_weightOf_41 : decode cX0_weightOf 41 = .ok (.iload_n 2, 1) := by decide +kernel
theorem dX0_weightOf_42 : decode cX0_weightOf 42 = .ok (.ireturn, 1) := by decide +kernel
theorem dX0_isCarrying_0 : decode cX0_isCarrying 0 = .ok (.iconst 2, 1) := by decide +kernel
theorem dX0_isCarrying_1 : decode cX0_isCarrying 1 = .ok (.aload_n 0, 1) := by decide +kernel
theorem dX0_isCarrying_2 : decode cX0_isCarrying 2 = .ok (.iload_n 1, 1) := by decide +kernel
theorem dX0_isCarrying_3 : decode cX0_isCarrying 3 = .ok (.invokestatic 23, 3) := by decide +kernel
theorem dX0_isCarrying_6 : decode cX0_isCarrying 6 = .ok (.imul, 1) := by decide +kernel
theorem dX0_isCarrying_7 : decode cX0_isCarrying 7 = .ok (.aload_n 0, 1) := by decide +kernel
theorem dX0_isCarrying_8 : decode cX0_isCarrying 8 = .ok (.iload_n 2, 1) := by decide +kernel
theorem dX0_isCarrying_9 : decode cX0_isCarrying 9 = .ok (.invokestatic 23, 3) := by decide +kernel
theorem dX0_isCarrying_12 : decode cX0_isCarrying 12 = .ok (.if_icmp .le 7, 3) := by decide +kernel
theorem dX0_isCarrying_15 : decode cX0_isCarrying 15 = .ok (.iconst 1, 1) := by decide +kernel
theorem dX0_isCarrying_16 : decode cX0_isCarrying 16 = .ok (.goto 4, 3) := by decide +kernel
theorem dX0_isCarrying_19 : decode cX0_isCarrying 19 = .ok (.iconst 0, 1) := by decide +kernel
theorem dX0_isCarrying_20 : decode cX0_isCarrying 20 = .ok (.ireturn, 1) := by decide +kernel
theorem dX0_pivots_0 : decode cX0_pivots 0 = .ok (.iconst 1, 1) := by decide +kernel
theorem dX0_pivots_1 : decode cX0_pivots 1 = .ok (.iload_n 1, 1) := by decide +kernel
theorem dX0_pivots_2 : decode cX0_pivots 2 = .ok (.ishl, 1) := by decide +kernel
theorem dX0_pivots_3 : decode cX0_pivots 3 = .ok (.istore_n 3, 1) := by decide +kernel
theorem dX0_pivots_4 : decode cX0_pivots 4 = .ok (.iload_n 2, 1) := by decide +kernel
theorem dX0_pivots_5 : decode cX0_pivots 5 = .ok (.iload_n 3, 1) := by decide +kernel
theorem dX0_pivots_6 : decode cX0_pivots 6 = .ok (.iconst (-1), 1) := by decide +kernel
theorem dX0_pivots_7 : decode cX0_pivots 7 = .ok (.ixor, 1) := by decide +kernel
theorem dX0_pivots_8 : decode cX0_pivots 8 = .ok (.iand, 1) := by decide +kernel
theorem dX0_pivots_9 : decode cX0_pivots 9 = .ok (.istore 4, 2) := by decide +kernel
theorem dX0_pivots_11 : decode cX0_pivots 11 = .ok (.iconst 0, 1) := by decide +kernel
theorem dX0_pivots_12 : decode cX0_pivots 12 = .ok (.istore 5, 2) := by decide +kernel
theorem dX0_pivots_14 : decode cX0_pivots 14 = .ok (.iconst 0, 1) := by decide +kernel
theorem dX0_pivots_15 : decode cX0_pivots 15 = .ok (.istore 6, 2) := by decide +kernel
theorem dX0_pivots_17 : decode cX0_pivots 17 = .ok (.iload 6, 2) := by decide +kernel
theorem dX0_pivots_19 : decode cX0_pivots 19 = .ok (.iconst 1, 1) := by decide +kernel
theorem dX0_pivots_20 : decode cX0_pivots 20 = .ok (.aload_n 0, 1) := by decide +kernel
theorem dX0_pivots_21 : decode cX0_pivots 21 = .ok (.getfield 7, 3) := by decide +kernel
theorem dX0_pivots_24 : decode cX0_pivots 24 = .ok (.ishl, 1) := by decide +kernel
theorem dX0_pivots_25 : decode cX0_pivots 25 = .ok (.if_icmp .ge 74, 3) := by decide +kernel
theorem dX0_pivots_28 : decode cX0_pivots 28 = .ok (.iload 6, 2) := by decide +kernel
theorem dX0_pivots_30 : decode cX0_pivots 30 = .ok (.iload 4, 2) := by decide +kernel
theorem dX0_pivots_32 : decode cX0_pivots 32 = .ok (.iconst (-1), 1) := by decide +kernel
theorem dX0_pivots_33 : decode cX0_pivots 33 = .ok (.ixor, 1) := by decide +kernel
theorem dX0_pivots_34 : decode cX0_pivots 34 = .ok (.iand, 1) := by decide +kernel
theorem dX0_pivots_35 : decode cX0_pivots 35 = .ok (.ifCond .ne 7, 3) := by decide +kernel
theorem dX0_pivots_38 : decode cX0_pivots 38 = .ok (.iconst 1, 1) := by decide +kernel
theorem dX0_pivots_39 : decode cX0_pivots 39 = .ok (.goto 4, 3) := by decide +kernel
theorem dX0_pivots_42 : decode cX0_pivots 42 = .ok (.iconst 0, 1) := by decide +kernel
theorem dX0_pivots_43 : decode cX0_pivots 43 = .ok (.istore 7, 2) := by decide +kernel
theorem dX0_pivots_45 : decode cX0_pivots 45 = .ok (.iload 7, 2) := by decide +kernel
theorem dX0_pivots_47 : decode cX0_pivots 47 = .ok (.ifCond .eq 46, 3) := by decide +kernel
theorem dX0_pivots_50 : decode cX0_pivots 50 = .ok (.aload_n 0, 1) := by decide +kernel
theorem dX0_pivots_51 : decode cX0_pivots 51 = .ok (.iload 6, 2) := by decide +kernel
theorem dX0_pivots_53 : decode cX0_pivots 53 = .ok (.iload_n 2, 1) := by decide +kernel
theorem dX0_pivots_54 : decode cX0_pivots 54 = .ok (.invokestatic 29, 3) := by decide +kernel
theorem dX0_pivots_57 : decode cX0_pivots 57 = .ok (.ifCond .ne 36, 3) := by decide +kernel
theorem dX0_pivots_60 : decode cX0_pivots 60 = .ok (.aload_n 0, 1) := by decide +kernel
theorem dX0_pivots_61 : decode cX0_pivots 61 = .ok (.iload 6, 2) := by decide +kernel
theorem dX0_pivots_63 : decode cX0_pivots 63 = .ok (.iload_n 3, 1) := by decide +kernel
theorem dX0_pivots_64 : decode cX0_pivots 64 = .ok (.ior, 1) := by decide +kernel
theorem dX0_pivots_65 : decode cX0_pivots 65 = .ok (.iload_n 2, 1) := by decide +kernel
theorem dX0_pivots_66 : decode cX0_pivots 66 = .ok (.invokestatic 29, 3) := by decide +kernel
theorem dX0_pivots_69 : decode cX0_pivots 69 = .ok (.ifCond .eq 24, 3) := by decide +kernel
theorem dX0_pivots_72 : decode cX0_pivots 72 = .ok (.iload 5, 2) := by decide +kernel
theorem dX0_pivots_74 : decode cX0_pivots 74 = .ok (.iload 6, 2) := by decide +kernel
theorem dX0_pivots_76 : decode cX0_pivots 76 = .ok (.invokestatic 33, 3) := by decide +kernel
theorem dX0_pivots_79 : decode cX0_pivots 79 = .ok (.iload 4, 2) := by decide +kernel
theorem dX0_pivots_81 : decode cX0_pivots 81 = .ok (.iload 6, 2) := by decide +kernel
theorem dX0_pivots_83 : decode cX0_pivots 83 = .ok (.iconst (-1), 1) := by decide +kernel
theorem dX0_pivots_84 : decode cX0_pivots 84 = .ok (.ixor, 1) := by decide +kernel
theorem dX0_pivots_85 : decode cX0_pivots 85 = .ok (.iand, 1) := by decide +kernel
theorem dX0_pivots_86 : decode cX0_pivots 86 = .ok (.invokestatic 33, 3) := by decide +kernel
theorem dX0_pivots_89 : decode cX0_pivots 89 = .ok (.imul, 1) := by decide +kernel
theorem dX0_pivots_90 : decode cX0_pivots 90 = .ok (.iadd, 1) := by decide +kernel
theorem dX0_pivots_91 : decode cX0_pivots 91 = .ok (.istore 5, 2) := by decide +kernel
theorem dX0_pivots_93 : decode cX0_pivots 93 = .ok (.iinc 6 1, 3) := by decide +kernel
theorem dX0_pivots_96 : decode cX0_pivots 96 = .ok (.goto (-79), 3) := by decide +kernel
theorem dX0_pivots_99 : decode cX0_pivots 99 = .ok (.iload 5, 2) := by decide +kernel
theorem dX0_pivots_101 : decode cX0_pivots 101 = .ok (.ireturn, 1) := by decide +kernel
theorem dX0_ordersOf_0 : decode cX0_ordersOf 0 = .ok (.iload_n 0, 1) := by decide +kernel
theorem dX0_ordersOf_1 : decode cX0_ordersOf 1 = .ok (.invokestatic 37, 3) := by decide +kernel
theorem dX0_ordersOf_4 : decode cX0_ordersOf 4 = .ok (.istore_n 1, 1) := by decide +kernel
theorem dX0_ordersOf_5 : decode cX0_ordersOf 5 = .ok (.iload_n 1, 1) := by decide +kernel
theorem dX0_ordersOf_6 : decode cX0_ordersOf 6 = .ok (.getstatic 42, 3) := by decide +kernel
theorem dX0_ordersOf_9 : decode cX0_ordersOf 9 = .ok (.arraylength, 1) := by decide +kernel
theorem dX0_ordersOf_10 : decode cX0_ordersOf 10 = .ok (.if_icmp .ge 11, 3) := by decide +kernel
theorem dX0_ordersOf_13 : decode cX0_ordersOf 13 = .ok (.getstatic 42, 3) := by decide +kernel
theorem dX0_ordersOf_16 : decode cX0_ordersOf 16 = .ok (.iload_n 1, 1) := by decide +kernel
theorem dX0_ordersOf_17 : decode cX0_ordersOf 17 = .ok (.iaload, 1) := by decide +kernel
theorem dX0_ordersOf_18 : decode cX0_ordersOf 18 = .ok (.goto 4, 3) := by decide +kernel
theorem dX0_ordersOf_21 : decode cX0_ordersOf 21 = .ok (.iconst 0, 1) := by decide +kernel
theorem dX0_ordersOf_22 : decode cX0_ordersOf 22 = .ok (.ireturn, 1) := by decide +kernel
theorem dX0_leastCarrying_0 : decode cX0_leastCarrying 0 = .ok (.iconst 0, 1) := by decide +kernel
theorem dX0_leastCarrying_1 : decode cX0_leastCarrying 1 = .ok (.istore_n 2, 1) := by decide +kernel
theorem dX0_leastCarrying_2 : decode cX0_leastCarrying 2 = .ok (.iconst 1, 1) := by decide +kernel
theorem dX0_leastCarrying_3 : decode cX0_leastCarrying 3 = .ok (.istore_n 3, 1) := by decide +kernel
theorem dX0_leastCarrying_4 : decode cX0_leastCarrying 4 = .ok (.iload_n 3, 1) := by decide +kernel
theorem dX0_leastCarrying_5 : decode cX0_leastCarrying 5 = .ok (.iconst 1, 1) := by decide +kernel
theorem dX0_leastCarrying_6 : decode cX0_leastCarrying 6 = .ok (.aload_n 0, 1) := by decide +kernel
theorem dX0_leastCarrying_7 : decode cX0_leastCarrying 7 = .ok (.getfield 7, 3) := by decide +kernel
theorem dX0_leastCarrying_10 : decode cX0_leastCarrying 10 = .ok (.ishl, 1) := by decide +kernel
theorem dX0_leastCarrying_11 : decode cX0_leastCarrying 11 = .ok (.if_icmp .ge 67, 3) := by decide +kernel
theorem dX0_leastCarrying_14 : decode cX0_leastCarrying 14 = .ok (.iload_n 3, 1) := by decide +kernel
theorem dX0_leastCarrying_15 : decode cX0_leastCarrying 15 = .ok (.iload_n 1, 1) := by decide +kernel
theorem dX0_leastCarrying_16 : decode cX0_leastCarrying 16 = .ok (.iconst (-1), 1) := by decide +kernel
theorem dX0_leastCarrying_17 : decode cX0_leastCarrying 17 = .ok (.ixor, 1) := by decide +kernel
theorem dX0_leastCarrying_18 : decode cX0_leastCarrying 18 = .ok (.iand, 1) := by decide +kernel
theorem dX0_leastCarrying_19 : decode cX0_leastCarrying 19 = .ok (.ifCond .ne 7, 3) := by decide +kernel
theorem dX0_leastCarrying_22 : decode cX0_leastCarrying 22 = .ok (.iconst 1, 1) := by decide +kernel
theorem dX0_leastCarrying_23 : decode cX0_leastCarrying 23 = .ok (.goto 4, 3) := by decide +kernel
theorem dX0_leastCarrying_26 : decode cX0_leastCarrying 26 = .ok (.iconst 0, 1) := by decide +kernel
theorem dX0_leastCarrying_27 : decode cX0_leastCarrying 27 = .ok (.istore 4, 2) := by decide +kernel
theorem dX0_leastCarrying_29 : decode cX0_leastCarrying 29 = .ok (.iload_n 2, 1) := by decide +kernel
theorem dX0_leastCarrying_30 : decode cX0_leastCarrying 30 = .ok (.ifCond .eq 14, 3) := by decide +kernel
theorem dX0_leastCarrying_33 : decode cX0_leastCarrying 33 = .ok (.iload_n 3, 1) := by decide +kernel
theorem dX0_leastCarrying_34 : decode cX0_leastCarrying 34 = .ok (.invokestatic 37, 3) := by decide +kernel
theorem dX0_leastCarrying_37 : decode cX0_leastCarrying 37 = .ok (.iload_n 2, 1) := by decide +kernel
theorem dX0_leastCarrying_38 : decode cX0_leastCarrying 38 = .ok (.invokestatic 37, 3) := by decide +kernel
theorem dX0_leastCarrying_41 : decode cX0_leastCarrying 41 = .ok (.if_icmp .ge 7, 3) := by decide +kernel
theorem dX0_leastCarrying_44 : decode cX0_leastCarrying 44 = .ok (.iconst 1, 1) := by decide +kernel
theorem dX0_leastCarrying_45 : decode cX0_leastCarrying 45 = .ok (.goto 4, 3) := by decide +kernel
theorem dX0_leastCarrying_48 : decode cX0_leastCarrying 48 = .ok (.iconst 0, 1) := by decide +kernel
theorem dX0_leastCarrying_49 : decode cX0_leastCarrying 49 = .ok (.istore 5, 2) := by decide +kernel
theorem dX0_leastCarrying_51 : decode cX0_leastCarrying 51 = .ok (.iload 4, 2) := by decide +kernel
theorem dX0_leastCarrying_53 : decode cX0_leastCarrying 53 = .ok (.ifCond .eq 19, 3) := by decide +kernel
theorem dX0_leastCarrying_56 : decode cX0_leastCarrying 56 = .ok (.iload 5, 2) := by decide +kernel
theorem dX0_leastCarrying_58 : decode cX0_leastCarrying 58 = .ok (.ifCond .eq 14, 3) := by decide +kernel
theorem dX0_leastCarrying_61 : decode cX0_leastCarrying 61 = .ok (.aload_n 0, 1) := by decide +kernel
theorem dX0_leastCarrying_62 : decode cX0_leastCarrying 62 = .ok (.iload_n 3, 1) := by decide +kernel
theorem dX0_leastCarrying_63 : decode cX0_leastCarrying 63 = .ok (.iload_n 1, 1) := by decide +kernel
theorem dX0_leastCarrying_64 : decode cX0_leastCarrying 64 = .ok (.invokestatic 29, 3) := by decide +kernel
theorem dX0_leastCarrying_67 : decode cX0_leastCarrying 67 = .ok (.ifCond .eq 5, 3) := by decide +kernel
theorem dX0_leastCarrying_70 : decode cX0_leastCarrying 70 = .ok (.iload_n 3, 1) := by decide +kernel
theorem dX0_leastCarrying_71 : decode cX0_leastCarrying 71 = .ok (.istore_n 2, 1) := by decide +kernel
theorem dX0_leastCarrying_72 : decode cX0_leastCarrying 72 = .ok (.iinc 3 1, 3) := by decide +kernel
theorem dX0_leastCarrying_75 : decode cX0_leastCarrying 75 = .ok (.goto (-71), 3) := by decide +kernel
theorem dX0_leastCarrying_78 : decode cX0_leastCarrying 78 = .ok (.iload_n 2, 1) := by decide +kernel
theorem dX0_leastCarrying_79 : decode cX0_leastCarrying 79 = .ok (.ireturn, 1) := by decide +kernel
theorem dX1_init_0 : decode cX1_init 0 = .ok (.aload_n 0, 1) := by decide +kernel
theorem dX1_init_1 : decode cX1_init 1 = .ok (.invokespecial 3, 3) := by decide +kernel
theorem dX1_init_4 : decode cX1_init 4 = .ok (.aload_n 0, 1) := by decide +kernel
theorem dX1_init_5 : decode cX1_init 5 = .ok (.bipush 20, 2) := by decide +kernel
theorem dX1_init_7 : decode cX1_init 7 = .ok (.newarray .int, 2) := by decide +kernel
theorem dX1_init_9 : decode cX1_init 9 = .ok (.putfield 11, 3) := by decide +kernel
theorem dX1_init_12 : decode cX1_init 12 = .ok (.aload_n 0, 1) := by decide +kernel
theorem dX1_init_13 : decode cX1_init 13 = .ok (.iconst 0, 1) := by decide +kernel
theorem dX1_init_14 : decode cX1_init 14 = .ok (.putfield 15, 3) := by decide +kernel
theorem dX1_init_17 : decode cX1_init 17 = .ok (.aload_n 0, 1) := by decide +kernel
theorem dX1_init_18 : decode cX1_init 18 = .ok (.iconst 0, 1) := by decide +kernel
theorem dX1_init_19 : decode cX1_init 19 = .ok (.putfield 19, 3) := by decide +kernel
theorem dX1_init_22 : decode cX1_init 22 = .ok (.aload_n 0, 1) := by decide +kernel
theorem dX1_init_23 : decode cX1_init 23 = .ok (.iconst 0, 1) := by decide +kernel
theorem dX1_init_24 : decode cX1_init 24 = .ok (.putfield 22, 3) := by decide +kernel
theorem dX1_init_27 : decode cX1_init 27 = .ok (.aload_n 0, 1) := by decide +kernel
theorem dX1_init_28 : decode cX1_init 28 = .ok (.iconst 0, 1) := by decide +kernel
theorem dX1_init_29 : decode cX1_init 29 = .ok (.putfield 25, 3) := by decide +kernel
theorem dX1_init_32 : decode cX1_init 32 = .ok (.return_, 1) := by decide +kernel
theorem dX1_forget_0 : decode cX1_forget 0 = .ok (.aload_n 0, 1) := by decide +kernel
theorem dX1_forget_1 : decode cX1_forget 1 = .ok (.iconst 0, 1) := by decide +kernel
theorem dX1_forget_2 : decode cX1_forget 2 = .ok (.putfield 15, 3) := by decide +kernel
theorem dX1_forget_5 : decode cX1_forget 5 = .ok (.return_, 1) := by decide +kernel
theorem dX1_bodyAt_0 : decode cX1_bodyAt 0 = .ok (.iload_n 1, 1) := by decide +kernel
theorem dX1_bodyAt_1 : decode cX1_bodyAt 1 = .ok (.ifCond .lt 26, 3) := by decide +kernel
theorem dX1_bodyAt_4 : decode cX1_bodyAt 4 = .ok (.iload_n 1, 1) := by decide +kernel
theorem dX1_bodyAt_5 : decode cX1_bodyAt 5 = .ok (.aload_n 0, 1) := by decide +kernel
theorem dX1_bodyAt_6 : decode cX1_bodyAt 6 = .ok (.getfield 15, 3) := by decide +kernel
theorem dX1_bodyAt_9 : decode cX1_bodyAt 9 = .ok (.if_icmp .ge 18, 3) := by decide +kernel
theorem dX1_bodyAt_12 : decode cX1_bodyAt 12 = .ok (.iload_n 1, 1) := by decide +kernel
theorem dX1_bodyAt_13 : decode cX1_bodyAt 13 = .ok (.bipush 20, 2) := by decide +kernel
theorem dX1_bodyAt_15 : decode cX1_bodyAt 15 = .ok (.if_icmp .ge 12, 3) := by decide +kernel
theorem dX1_bodyAt_18 : decode cX1_bodyAt 18 = .ok (.aload_n 0, 1) := by decide +kernel
theorem dX1_bodyAt_19 : decode cX1_bodyAt 19 = .ok (.getfield 11, 3) := by decide +kernel
theorem dX1_bodyAt_22 : decode cX1_bodyAt 22 = .ok (.iload_n 1, 1) := by decide +kernel
theorem dX1_bodyAt_23 : decode cX1_bodyAt 23 = .ok (.iaload, 1) := by decide +kernel
theorem dX1_bodyAt_24 : decode cX1_bodyAt 24 = .ok (.goto 4, 3) := by decide +kernel
theorem dX1_bodyAt_27 : decode cX1_bodyAt 27 = .ok (.iconst (-1), 1) := by decide +kernel
theorem dX1_bodyAt_28 : decode cX1_bodyAt 28 = .ok (.ireturn, 1) := by decide +kernel
theorem dX1_perform_0 : decode cX1_perform 0 = .ok (.aload_n 0, 1) := by decide +kernel
theorem dX1_perform_1 : decode cX1_perform 1 = .ok (.iload_n 2, 1) := by decide +kernel
theorem dX1_perform_2 : decode cX1_perform 2 = .ok (.putfield 19, 3) := by decide +kernel
theorem dX1_perform_5 : decode cX1_perform 5 = .ok (.aload_n 0, 1) := by decide +kernel
theorem dX1_perform_6 : decode cX1_perform 6 = .ok (.aload_n 1, 1) := by decide +kernel
theorem dX1_perform_7 : decode cX1_perform 7 = .ok (.getfield 28, 3) := by decide +kernel
theorem dX1_perform_10 : decode cX1_perform 10 = .ok (.iload_n 2, 1) := by decide +kernel
theorem dX1_perform_11 : decode cX1_perform 11 = .ok (.iaload, 1) := by decide +kernel
theorem dX1_perform_12 : decode cX1_perform 12 = .ok (.putfield 22, 3) := by decide +kernel
theorem dX1_perform_15 : decode cX1_perform 15 = .ok (.aload_n 0, 1) := by decide +kernel
theorem dX1_perform_16 : decode cX1_perform 16 = .ok (.aload_n 1, 1) := by decide +kernel
theorem dX1_perform_17 : decode cX1_perform 17 = .ok (.getfield 32, 3) := by decide +kernel
theorem dX1_perform_20 : decode cX1_perform 20 = .ok (.iload_n 2, 1) := by decide +kernel
theorem dX1_perform_21 : decode cX1_perform 21 = .ok (.iaload, 1) := by decide +kernel
theorem dX1_perform_22 : decode cX1_perform 22 = .ok (.putfield 25, 3) := by decide +kernel
theorem dX1_perform_25 : decode cX1_perform 25 = .ok (.aload_n 0, 1) := by decide +kernel
theorem dX1_perform_26 : decode cX1_perform 26 = .ok (.iload_n 3, 1) := by decide +kernel
theorem dX1_perform_27 : decode cX1_perform 27 = .ok (.aload_n 0, 1) := by decide +kernel
theorem dX1_perform_28 : decode cX1_perform 28 = .ok (.getfield 25, 3) := by decide +kernel
theorem dX1_perform_31 : decode cX1_perform 31 = .ok (.iload 4, 2) := by decide +kernel
theorem dX1_perform_33 : decode cX1_perform 33 = .ok (.iconst 0, 1) := by decide +kernel
theorem dX1_perform_34 : decode cX1_perform 34 = .ok (.invokestatic 34, 3) := by decide +kernel
theorem dX1_perform_37 : decode cX1_perform 37 = .ok (.ireturn, 1) := by decide +kernel
theorem dX1_note_0 : decode cX1_note 0 = .ok (.aload_n 0, 1) := by decide +kernel
theorem dX1_note_1 : decode cX1_note 1 = .ok (.getfield 15, 3) := by decide +kernel
theorem dX1_note_4 : decode cX1_note 4 = .ok (.bipush 20, 2) := by decide +kernel
theorem dX1_note_6 : decode cX1_note 6 = .ok (.if_icmp .ge 13, 3) := by decide +kernel
theorem dX1_note_9 : decode cX1_note 9 = .ok (.aload_n 0, 1) := by decide +kernel
theorem dX1_note_10 : decode cX1_note 10 = .ok (.getfield 11, 3) := by decide +kernel
theorem dX1_note_13 : decode cX1_note 13 = .ok (.aload_n 0, 1) := by decide +kernel
theorem dX1_note_14 : decode cX1_note 14 = .ok (.getfield 15, 3) := by decide +kernel
theorem dX1_note_17 : decode cX1_note 17 = .ok (.iload_n 1, 1) := by decide +kernel
theorem dX1_note_18 : decode cX1_note 18 = .ok (.iastore, 1) := by decide +kernel
theorem dX1_note_19 : decode cX1_note 19 = .ok (.aload_n 0, 1) := by decide +kernel
theorem dX1_note_20 : decode cX1_note 20 = .ok (.dup, 1) := by decide +kernel
theorem dX1_note_21 : decode cX1_note 21 = .ok (.getfield 15, 3) := by decide +kernel
theorem dX1_note_24 : decode cX1_note 24 = .ok (.iconst 1, 1) := by decide +kernel
theorem dX1_note_25 : decode cX1_note 25 = .ok (.iadd, 1) := by decide +kernel
theorem dX1_note_26 : decode cX1_note 26 = .ok (.putfield 15, 3) := by decide +kernel
theorem dX1_note_29 : decode cX1_note 29 = .ok (.return_, 1) := by decide +kernel
theorem dX1_begin_0 : decode cX1_begin 0 = .ok (.iload 4, 2) := by decide +kernel
theorem dX1_begin_2 : decode cX1_begin 2 = .ok (.bipush 20, 2) := by decide +kernel
theorem dX1_begin_4 : decode cX1_begin 4 = .ok (.if_icmp .le 5, 3) := by decide +kernel
theorem dX1_begin_7 : decode cX1_begin 7 = .ok (.iconst 0, 1) := by decide +kernel
theorem dX1_begin_8 : decode cX1_begin 8 = .ok (.ireturn, 1) := by decide +kernel
theorem dX1_begin_9 : decode cX1_begin 9 = .ok (.iload_n 1, 1) := by decide +kernel
theorem dX1_begin_10 : decode cX1_begin 10 = .ok (.iload_n 2, 1) := by decide +kernel
theorem dX1_begin_11 : decode cX1_begin 11 = .ok (.invokestatic 38, 3) := by decide +kernel
theorem dX1_begin_14 : decode cX1_begin 14 = .ok (.istore 5, 2) := by decide +kernel
theorem dX1_begin_16 : decode cX1_begin 16 = .ok (.iload 4, 2) := by decide +kernel
theorem dX1_begin_18 : decode cX1_begin 18 = .ok (.iconst 1, 1) := by decide +kernel
theorem dX1_begin_19 : decode cX1_begin 19 = .ok (.iadd, 1) := by decide +kernel
theorem dX1_begin_20 : decode cX1_begin 20 = .ok (.istore 6, 2) := by decide +kernel
theorem dX1_begin_22 : decode cX1_begin 22 = .ok (.aload_n 0, 1) := by decide +kernel
theorem dX1_begin_23 : decode cX1_begin 23 = .ok (.getfield 25, 3) := by decide +kernel
theorem dX1_begin_26 : decode cX1_begin 26 = .ok (.istore 7, 2) := by decide +kernel
theorem dX1_begin_28 : decode cX1_begin 28 = .ok (.aload_n 0, 1) := by decide +kernel
theorem dX1_begin_29 : decode cX1_begin 29 = .ok (.iload 5, 2) := by decide +kernel
theorem dX1_begin_31 : decode cX1_begin 31 = .ok (.invokevirtual 42, 3) := by decide +kernel
theorem dX1_begin_34 : decode cX1_begin 34 = .ok (.iload 5, 2) := by decide +kernel
theorem dX1_begin_36 : decode cX1_begin 36 = .ok (.lookupswitch 255 #[(10, 100), (11, 107), (12, 120), (20, 151), (30, 166), (40, 178), (50, 190), (51, 201), (60, 216), (70, 228), (71, 240)], 100) := by decide +kernel
theorem dX1_begin_136 : decode cX1_begin 136 = .ok (.iload_n 3, 1) := by decide +kernel
theorem dX1_begin_137 : decode cX1_begin 137 = .ok (.aload_n 0, 1) := by decide +kernel
theorem dX1_begin_138 : decode cX1_begin 138 = .ok (.getfield 19, 3) := by decide +kernel
theorem dX1_begin_141 : decode cX1_begin 141 = .ok (.iadd, 1) := by decide +kernel
theorem dX1_begin_142 : decode cX1_begin 142 = .ok (.ireturn, 1) := by decide +kernel
theorem dX1_begin_143 : decode cX1_begin 143 = .ok (.aload_n 0, 1) := by decide +kernel
theorem dX1_begin_144 : decode cX1_begin 144 = .ok (.iconst 0, 1) := by decide +kernel
theorem dX1_begin_145 : decode cX1_begin 145 = .ok (.iload 7, 2) := by decide +kernel
theorem dX1_begin_147 : decode cX1_begin 147 = .ok (.iload_n 3, 1) := by decide +kernel
theorem dX1_begin_148 : decode cX1_begin 148 = .ok (.iload 6, 2) := by decide +kernel
theorem dX1_begin_150 : decode cX1_begin 150 = .ok (.invokestatic 34, 3) := by decide +kernel
theorem dX1_begin_153 : decode cX1_begin 153 = .ok (.iconst 2, 1) := by decide +kernel
theorem dX1_begin_154 : decode cX1_begin 154 = .ok (.imul, 1) := by decide +kernel
theorem dX1_begin_155 : decode cX1_begin 155 = .ok (.ireturn, 1) := by decide +kernel
theorem dX1_begin_156 : decode cX1_begin 156 = .ok (.aload_n 0, 1) := by decide +kernel
theorem dX1_begin_157 : decode cX1_begin 157 = .ok (.iconst 1, 1) := by decide +kernel
theorem dX1_begin_158 : decode cX1_begin 158 = .ok (.iload 7, 2) := by decide +kernel
theorem dX1_begin_160 : decode cX1_begin 160 = .ok (.iload_n 3, 1) := by decide +kernel
theorem dX1_begin_161 : decode cX1_begin 161 = .ok (.iload 6, 2) := by decide +kernel
theorem dX1_begin_163 : decode cX1_begin 163 = .ok (.invokestatic 34, 3) := by decide +kernel
theorem dX1_begin_166 : decode cX1_begin 166 = .ok (.istore 8, 2) := by decide +kernel
theorem dX1_begin_168 : decode cX1_begin 168 = .ok (.iload 8, 2) := by decide +kernel
theorem dX1_begin_170 : decode cX1_begin 170 = .ok (.aload_n 0, 1) := by decide +kernel
theorem dX1_begin_171 : decode cX1_begin 171 = .ok (.iconst 0, 1) := by decide +kernel
theorem dX1_begin_172 : decode cX1_begin 172 = .ok (.iload 7, 2) := by decide +kernel
theorem dX1_begin_174 : decode cX1_begin 174 = .ok (.iload_n 3, 1) := by decide +kernel
theorem dX1_begin_175 : decode cX1_begin 175 = .ok (.aload_n 0, 1) := by decide +kernel
theorem dX1_begin_176 : decode cX1_begin 176 = .ok (.getfield 22, 3) := by decide +kernel
theorem dX1_begin_179 : decode cX1_begin 179 = .ok (.isub, 1) := by decide +kernel
theorem dX1_begin_180 : decode cX1_begin 180 = .ok (.iload 6, 2) := by decide +kernel
theorem dX1_begin_182 : decode cX1_begin 182 = .ok (.invokestatic 34, 3) := by decide +kernel
theorem dX1_begin_185 : decode cX1_begin 185 = .ok (.ixor, 1) := by decide +kernel
theorem dX1_begin_186 : decode cX1_begin 186 = .ok (.ireturn, 1) := by decide +kernel
theorem dX1_begin_187 : decode cX1_begin 187 = .ok (.aload_n 0, 1) := by decide +kernel
theorem dX1_begin_188 : decode cX1_begin 188 = .ok (.iconst 0, 1) := by decide +kernel
theorem dX1_begin_189 : decode cX1_begin 189 = .ok (.iconst 0, 1) := by decide +kernel
theorem dX1_begin_190 : decode cX1_begin 190 = .ok (.iload_n 3, 1) := by decide +kernel
theorem dX1_begin_191 : decode cX1_begin 191 = .ok (.iload 6, 2) := by decide +kernel
theorem dX1_begin_193 : decode cX1_begin 193 = .ok (.invokestatic 34, 3) := by decide +kernel
theorem dX1_begin_196 : decode cX1_begin 196 = .ok (.aload_n 0, 1) := by decide +kernel
theorem dX1_begin_197 : decode cX1_begin 197 = .ok (.getfield 22, 3) := by decide +kernel
theorem dX1_begin_200 : decode cX1_begin 200 = .ok (.iadd, 1) := by decide +kernel
theorem dX1_begin_201 : decode cX1_begin 201 = .ok (.ireturn, 1) := by decide +kernel
theorem dX1_begin_202 : decode cX1_begin 202 = .ok (.aload_n 0, 1) := by decide +kernel
theorem dX1_begin_203 : decode cX1_begin 203 = .ok (.iconst 1, 1) := by decide +kernel
theorem dX1_begin_204 : decode cX1_begin 204 = .ok (.iconst 0, 1) := by decide +kernel
theorem dX1_begin_205 : decode cX1_begin 205 = .ok (.iload_n 3, 1) := by decide +kernel
theorem dX1_begin_206 : decode cX1_begin 206 = .ok (.iload 6, 2) := by decide +kernel
theorem dX1_begin_208 : decode cX1_begin 208 = .ok (.invokestatic 34, 3) := by decide +kernel
theorem dX1_begin_211 : decode cX1_begin 211 = .ok (.iconst 3, 1) := by decide +kernel
theorem dX1_begin_212 : decode cX1_begin 212 = .ok (.imul, 1) := by decide +kernel
theorem dX1_begin_213 : decode cX1_begin 213 = .ok (.ireturn, 1) := by decide +kernel
theorem dX1_begin_214 : decode cX1_begin 214 = .ok (.aload_n 0, 1) := by decide +kernel
theorem dX1_begin_215 : decode cX1_begin 215 = .ok (.iconst 0, 1) := by decide +kernel
theorem dX1_begin_216 : decode cX1_begin 216 = .ok (.iconst 1, 1) := by decide +kernel
theorem dX1_begin_217 : decode cX1_begin 217 = .ok (.iload_n 3, 1) := by decide +kernel
theorem dX1_begin_218 : decode cX1_begin 218 = .ok (.iconst 1, 1) := by decide +kernel
theorem dX1_begin_219 : decode cX1_begin 219 = .ok (.iadd, 1) := by decide +kernel
theorem dX1_begin_220 : decode cX1_begin 220 = .ok (.iload 6, 2) := by decide +kernel
theorem dX1_begin_222 : decode cX1_begin 222 = .ok (.invokestatic 34, 3) := by decide +kernel
theorem dX1_begin_225 : decode cX1_begin 225 = .ok (.ireturn, 1) := by decide +kernel
theorem dX1_begin_226 : decode cX1_begin 226 = .ok (.aload_n 0, 1) := by decide +kernel
theorem dX1_begin_227 : decode cX1_begin 227 = .ok (.iconst 2, 1) := by decide +kernel
theorem dX1_begin_228 : decode cX1_begin 228 = .ok (.iconst 0, 1) := by decide +kernel
theorem dX1_begin_229 : decode cX1_begin 229 = .ok (.iload_n 3, 1) := by decide +kernel
theorem dX1_begin_230 : decode cX1_begin 230 = .ok (.iload 6, 2) := by decide +kernel
theorem dX1_begin_232 : decode cX1_begin 232 = .ok (.invokestatic 34, 3) := by decide +kernel
theorem dX1_begin_235 : decode cX1_begin 235 = .ok (.ineg, 1) := by decide +kernel
theorem dX1_begin_236 : decode cX1_begin 236 = .ok (.ireturn, 1) := by decide +kernel
theorem dX1_begin_237 : decode cX1_begin 237 = .ok (.aload_n 0, 1) := by decide +kernel
theorem dX1_begin_238 : decode cX1_begin 238 = .ok (.iconst 0, 1) := by decide +kernel
theorem dX1_begin_239 : decode cX1_begin 239 = .ok (.iconst 0, 1) := by decide +kernel
theorem dX1_begin_240 : decode cX1_begin 240 = .ok (.iload_n 3, 1) := by decide +kernel
theorem dX1_begin_241 : decode cX1_begin 241 = .ok (.iload 6, 2) := by decide +kernel
theorem dX1_begin_243 : decode cX1_begin 243 = .ok (.invokestatic 34, 3) := by decide +kernel
theorem dX1_begin_246 : decode cX1_begin 246 = .ok (.aload_n 0, 1) := by decide +kernel
theorem dX1_begin_247 : decode cX1_begin 247 = .ok (.getfield 19, 3) := by decide +kernel
theorem dX1_begin_250 : decode cX1_begin 250 = .ok (.isub, 1) := by decide +kernel
theorem dX1_begin_251 : decode cX1_begin 251 = .ok (.ireturn, 1) := by decide +kernel
theorem dX1_begin_252 : decode cX1_begin 252 = .ok (.aload_n 0, 1) := by decide +kernel
theorem dX1_begin_253 : decode cX1_begin 253 = .ok (.iconst 2, 1) := by decide +kernel
theorem dX1_begin_254 : decode cX1_begin 254 = .ok (.iconst 2, 1) := by decide +kernel
theorem dX1_begin_255 : decode cX1_begin 255 = .ok (.iload_n 3, 1) := by decide +kernel
theorem dX1_begin_256 : decode cX1_begin 256 = .ok (.iload 6, 2) := by decide +kernel
theorem dX1_begin_258 : decode cX1_begin 258 = .ok (.invokestatic 34, 3) := by decide +kernel
theorem dX1_begin_261 : decode cX1_begin 261 = .ok (.iconst 5, 1) := by decide +kernel
theorem dX1_begin_262 : decode cX1_begin 262 = .ok (.ixor, 1) := by decide +kernel
theorem dX1_begin_263 : decode cX1_begin 263 = .ok (.ireturn, 1) := by decide +kernel
theorem dX1_begin_264 : decode cX1_begin 264 = .ok (.aload_n 0, 1) := by decide +kernel
theorem dX1_begin_265 : decode cX1_begin 265 = .ok (.iconst 0, 1) := by decide +kernel
theorem dX1_begin_266 : decode cX1_begin 266 = .ok (.iconst 3, 1) := by decide +kernel
theorem dX1_begin_267 : decode cX1_begin 267 = .ok (.iload_n 3, 1) := by decide +kernel
theorem dX1_begin_268 : decode cX1_begin 268 = .ok (.iload 6, 2) := by decide +kernel
theorem dX1_begin_270 : decode cX1_begin 270 = .ok (.invokestatic 34, 3) := by decide +kernel
theorem dX1_begin_273 : decode cX1_begin 273 = .ok (.iconst 2, 1) := by decide +kernel
theorem dX1_begin_274 : decode cX1_begin 274 = .ok (.imul, 1) := by decide +kernel
theorem dX1_begin_275 : decode cX1_begin 275 = .ok (.ireturn, 1) := by decide +kernel
theorem dX1_begin_276 : decode cX1_begin 276 = .ok (.aload_n 0, 1) := by decide +kernel
theorem dX1_begin_277 : decode cX1_begin 277 = .ok (.iconst 1, 1) := by decide +kernel
theorem dX1_begin_278 : decode cX1_begin 278 = .ok (.iconst 3, 1) := by decide +kernel
theorem dX1_begin_279 : decode cX1_begin 279 = .ok (.iload_n 3, 1) := by decide +kernel
theorem dX1_begin_280 : decode cX1_begin 280 = .ok (.aload_n 0, 1) := by decide +kernel
theorem dX1_begin_281 : decode cX1_begin 281 = .ok (.getfield 22, 3) := by decide +kernel
theorem dX1_begin_284 : decode cX1_begin 284 = .ok (.isub, 1) := by decide +kernel
theorem dX1_begin_285 : decode cX1_begin 285 = .ok (.iload 6, 2) := by decide +kernel
theorem dX1_begin_287 : decode cX1_begin 287 = .ok (.invokestatic 34, 3) := by decide +kernel
theorem dX1_begin_290 : decode cX1_begin 290 = .ok (.ireturn, 1) := by decide +kernel
theorem dX1_begin_291 : decode cX1_begin 291 = .ok (.iconst 0, 1) := by decide +kernel
theorem dX1_begin_292 : decode cX1_begin 292 = .ok (.ireturn, 1) := by decide +kernel
theorem dX1_bodyOf_0 : decode cX1_bodyOf 0 = .ok (.iload_n 1, 1) := by decide +kernel
theorem dX1_bodyOf_1 : decode cX1_bodyOf 1 = .ok (.istore_n 2, 1) := by decide +kernel
theorem dX1_bodyOf_2 : decode cX1_bodyOf 2 = .ok (.iconst 0, 1) := by decide +kernel
theorem dX1_bodyOf_3 : decode cX1_bodyOf 3 = .ok (.istore_n 3, 1) := by decide +kernel
theorem dX1_bodyOf_4 : decode cX1_bodyOf 4 = .ok (.iload_n 3, 1) := by decide +kernel
theorem dX1_bodyOf_5 : decode cX1_bodyOf 5 = .ok (.bipush 7, 2) := by decide +kernel
theorem dX1_bodyOf_7 : decode cX1_bodyOf 7 = .ok (.if_icmp .ge 40, 3) := by decide +kernel
theorem dX1_bodyOf_10 : decode cX1_bodyOf 10 = .ok (.iload_n 2, 1) := by decide +kernel
theorem dX1_bodyOf_11 : decode cX1_bodyOf 11 = .ok (.invokestatic 48, 3) := by decide +kernel
theorem dX1_bodyOf_14 : decode cX1_bodyOf 14 = .ok (.ifCond .eq 33, 3) := by decide +kernel
theorem dX1_bodyOf_17 : decode cX1_bodyOf 17 = .ok (.getstatic 52, 3) := by decide +kernel
theorem dX1_bodyOf_20 : decode cX1_bodyOf 20 = .ok (.iload_n 2, 1) := by decide +kernel
theorem dX1_bodyOf_21 : decode cX1_bodyOf 21 = .ok (.iconst 3, 1) := by decide +kernel
theorem dX1_bodyOf_22 : decode cX1_bodyOf 22 = .ok (.imul, 1) := by decide +kernel
theorem dX1_bodyOf_23 : decode cX1_bodyOf 23 = .ok (.iload_n 0, 1) := by decide +kernel
theorem dX1_bodyOf_24 : decode cX1_bodyOf 24 = .ok (.iadd, 1) := by decide +kernel
theorem dX1_bodyOf_25 : decode cX1_bodyOf 25 = .ok (.iaload, 1) := by decide +kernel
theorem dX1_bodyOf_26 : decode cX1_bodyOf 26 = .ok (.istore 4, 2) := by decide +kernel
theorem dX1_bodyOf_28 : decode cX1_bodyOf 28 = .ok (.iload 4, 2) := by decide +kernel
theorem dX1_bodyOf_30 : decode cX1_bodyOf 30 = .ok (.ifCond .eq 6, 3) := by decide +kernel
theorem dX1_bodyOf_33 : decode cX1_bodyOf 33 = .ok (.iload 4, 2) := by decide +kernel
theorem dX1_bodyOf_35 : decode cX1_bodyOf 35 = .ok (.ireturn, 1) := by decide +kernel
theorem dX1_bodyOf_36 : decode cX1_bodyOf 36 = .ok (.iload_n 2, 1) := by decide +kernel
theorem dX1_bodyOf_37 : decode cX1_bodyOf 37 = .ok (.invokestatic 55, 3) := by decide +kernel
theorem dX1_bodyOf_40 : decode cX1_bodyOf 40 = .ok (.istore_n 2, 1) := by decide +kernel
theorem dX1_bodyOf_41 : decode cX1_bodyOf 41 = .ok (.iinc 3 1, 3) := by decide +kernel
theorem dX1_bodyOf_44 : decode cX1_bodyOf 44 = .ok (.goto (-40), 3) := by decide +kernel
theorem dX1_bodyOf_47 : decode cX1_bodyOf 47 = .ok (.iconst 0, 1) := by decide +kernel
theorem dX1_bodyOf_48 : decode cX1_bodyOf 48 = .ok (.ireturn, 1) := by decide +kernel
theorem dX2_init_0 : decode cX2_init 0 = .ok (.aload_n 0, 1) := by decide +kernel
theorem dX2_init_1 : decode cX2_init 1 = .ok (.invokespecial 3, 3) := by decide +kernel
theorem dX2_init_4 : decode cX2_init 4 = .ok (.aload_n 0, 1) := by decide +kernel
theorem dX2_init_5 : decode cX2_init 5 = .ok (.bipush 7, 2) := by decide +kernel
theorem dX2_init_7 : decode cX2_init 7 = .ok (.newarray .int, 2) := by decide +kernel
theorem dX2_init_9 : decode cX2_init 9 = .ok (.putfield 9, 3) := by decide +kernel
theorem dX2_init_12 : decode cX2_init 12 = .ok (.aload_n 0, 1) := by decide +kernel
theorem dX2_init_13 : decode cX2_init 13 = .ok (.bipush 31, 2) := by decide +kernel
theorem dX2_init_15 : decode cX2_init 15 = .ok (.newarray .long, 2) := by decide +kernel
theorem dX2_init_17 : decode cX2_init 17 = .ok (.putfield 15, 3) := by decide +kernel
theorem dX2_init_20 : decode cX2_init 20 = .ok (.return_, 1) := by decide +kernel
theorem dX2_look_0 : decode cX2_look 0 = .ok (.iconst 0, 1) := by decide +kernel
theorem dX2_look_1 : decode cX2_look 1 = .ok (.istore 4, 2) := by decide +kernel
theorem dX2_look_3 : decode cX2_look 3 = .ok (.iload 4, 2) := by decide +kernel
theorem dX2_look_5 : decode cX2_look 5 = .ok (.aload_n 1, 1) := by decide +kernel
theorem dX2_look_6 : decode cX2_look 6 = .ok (.getfield 19, 3) := by decide +kernel
theorem dX2_look_9 : decode cX2_look 9 = .ok (.if_icmp .ge 66, 3) := by decide +kernel
theorem dX2_look_12 : decode cX2_look 12 = .ok (.aload_n 0, 1) := by decide +kernel
theorem dX2_look_13 : decode cX2_look 13 = .ok (.getfield 9, 3) := by decide +kernel
theorem dX2_look_16 : decode cX2_look 16 = .ok (.iload 4, 2) := by decide +kernel
theorem dX2_look_18 : decode cX2_look 18 = .ok (.aload_n 1, 1) := by decide +kernel
theorem dX2_look_19 : decode cX2_look 19 = .ok (.getfield 25, 3) := by decide +kernel
theorem dX2_look_22 : decode cX2_look 22 = .ok (.iload 4, 2) := by decide +kernel
theorem dX2_look_24 : decode cX2_look 24 = .ok (.iaload, 1) := by decide +kernel
theorem dX2_look_25 : decode cX2_look 25 = .ok (.iastore, 1) := by decide +kernel
theorem dX2_look_26 : decode cX2_look 26 = .ok (.iconst 0, 1) := by decide +kernel
theorem dX2_look_27 : decode cX2_look 27 = .ok (.istore 5, 2) := by decide +kernel
theorem dX2_look_29 : decode cX2_look 29 = .ok (.iload 5, 2) := by decide +kernel
theorem dX2_look_31 : decode cX2_look 31 = .ok (.iload_n 3, 1) := by decide +kernel
theorem dX2_look_32 : decode cX2_look 32 = .ok (.if_icmp .ge 37, 3) := by decide +kernel
theorem dX2_look_35 : decode cX2_look 35 = .ok (.aload_n 0, 1) := by decide +kernel
theorem dX2_look_36 : decode cX2_look 36 = .ok (.getfield 9, 3) := by decide +kernel
theorem dX2_look_39 : decode cX2_look 39 = .ok (.iload 4, 2) := by decide +kernel
theorem dX2_look_41 : decode cX2_look 41 = .ok (.aload_n 1, 1) := by decide +kernel
theorem dX2_look_42 : decode cX2_look 42 = .ok (.aload_n 2, 1) := by decide +kernel
theorem dX2_look_43 : decode cX2_look 43 = .ok (.iload 4, 2) := by decide +kernel
theorem dX2_look_45 : decode cX2_look 45 = .ok (.aload_n 0, 1) := by decide +kernel
theorem dX2_look_46 : decode cX2_look 46 = .ok (.getfield 9, 3) := by decide +kernel
theorem dX2_look_49 : decode cX2_look 49 = .ok (.iload 4, 2) := by decide +kernel
theorem dX2_look_51 : decode cX2_look 51 = .ok (.iaload, 1) := by decide +kernel
theorem dX2_look_52 : decode cX2_look 52 = .ok (.aload_n 1, 1) := by decide +kernel
theorem dX2_look_53 : decode cX2_look 53 = .ok (.getfield 26, 3) := by decide +kernel
theorem dX2_look_56 : decode cX2_look 56 = .ok (.iload 5, 2) := by decide +kernel
theorem dX2_look_58 : decode cX2_look 58 = .ok (.iadd, 1) := by decide +kernel
theorem dX2_look_59 : decode cX2_look 59 = .ok (.invokevirtual 29, 3) := by decide +kernel
theorem dX2_look_62 : decode cX2_look 62 = .ok (.iastore, 1) := by decide +kernel
theorem dX2_look_63 : decode cX2_look 63 = .ok (.iinc 5 1, 3) := by decide +kernel
theorem dX2_look_66 : decode cX2_look 66 = .ok (.goto (-37), 3) := by decide +kernel
theorem dX2_look_69 : decode cX2_look 69 = .ok (.iinc 4 1, 3) := by decide +kernel
theorem dX2_look_72 : decode cX2_look 72 = .ok (.goto (-69), 3) := by decide +kernel
theorem dX2_look_75 : decode cX2_look 75 = .ok (.return_, 1) := by decide +kernel
theorem dX2_elect_0 : decode cX2_elect 0 = .ok (.iload_n 3, 1) := by decide +kernel
theorem dX2_elect_1 : decode cX2_elect 1 = .ok (.aload_n 1, 1) := by decide +kernel
theorem dX2_elect_2 : decode cX2_elect 2 = .ok (.aload_n 1, 1) := by decide +kernel
theorem dX2_elect_3 : decode cX2_elect 3 = .ok (.getfield 33, 3) := by decide +kernel
theorem dX2_elect_6 : decode cX2_elect 6 = .ok (.invokevirtual 36, 3) := by decide +kernel
theorem dX2_elect_9 : decode cX2_elect 9 = .ok (.ior, 1) := by decide +kernel
theorem dX2_elect_10 : decode cX2_elect 10 = .ok (.istore 4, 2) := by decide +kernel
theorem dX2_elect_12 : decode cX2_elect 12 = .ok (.iconst 0, 1) := by decide +kernel
theorem dX2_elect_13 : decode cX2_elect 13 = .ok (.istore 5, 2) := by decide +kernel
theorem dX2_elect_15 : decode cX2_elect 15 = .ok (.iconst 0, 1) := by decide +kernel
theorem dX2_elect_16 : decode cX2_elect 16 = .ok (.istore 6, 2) := by decide +kernel
theorem dX2_elect_18 : decode cX2_elect 18 = .ok (.iload 6, 2) := by decide +kernel
theorem dX2_elect_20 : decode cX2_elect 20 = .ok (.aload_n 1, 1) := by decide +kernel
theorem dX2_elect_21 : decode cX2_elect 21 = .ok (.getfield 40, 3) := by decide +kernel
theorem dX2_elect_24 : decode cX2_elect 24 = .ok (.if_icmp .ge 37, 3) := by decide +kernel
theorem dX2_elect_27 : decode cX2_elect 27 = .ok (.aload_n 0, 1) := by decide +kernel
theorem dX2_elect_28 : decode cX2_elect 28 = .ok (.aload_n 1, 1) := by decide +kernel
theorem dX2_elect_29 : decode cX2_elect 29 = .ok (.aload_n 2, 1) := by decide +kernel
theorem dX2_elect_30 : decode cX2_elect 30 = .ok (.iload 4, 2) := by decide +kernel
theorem dX2_elect_32 : decode cX2_elect 32 = .ok (.iload 5, 2) := by decide +kernel
theorem dX2_elect_34 : decode cX2_elect 34 = .ok (.ior, 1) := by decide +kernel
theorem dX2_elect_35 : decode cX2_elect 35 = .ok (.invokevirtual 43, 3) := by decide +kernel
theorem dX2_elect_38 : decode cX2_elect 38 = .ok (.istore 7, 2) := by decide +kernel
theorem dX2_elect_40 : decode cX2_elect 40 = .ok (.iload 7, 2) := by decide +kernel
theorem dX2_elect_42 : decode cX2_elect 42 = .ok (.iconst (-1), 1) := by decide +kernel
theorem dX2_elect_43 : decode cX2_elect 43 = .ok (.if_icmp .eq 12, 3) := by decide +kernel
theorem dX2_elect_46 : decode cX2_elect 46 = .ok (.iload 5, 2) := by decide +kernel
theorem dX2_elect_48 : decode cX2_elect 48 = .ok (.iconst 1, 1) := by decide +kernel
theorem dX2_elect_49 : decode cX2_elect 49 = .ok (.iload 7, 2) := by decide +kernel
theorem dX2_elect_51 : decode cX2_elect 51 = .ok (.ishl, 1) := by decide +kernel
theorem dX2_elect_52 : decode cX2_elect 52 = .ok (.ior, 1) := by decide +kernel
theorem dX2_elect_53 : decode cX2_elect 53 = .ok (.istore 5, 2) := by decide +kernel
theorem dX2_elect_55 : decode cX2_elect 55 = .ok (.iinc 6 1, 3) := by decide +kernel
theorem dX2_elect_58 : decode cX2_elect 58 = .ok (.goto (-40), 3) := by decide +kernel
theorem dX2_elect_61 : decode cX2_elect 61 = .ok (.iload 5, 2) := by decide +kernel
theorem dX2_elect_63 : decode cX2_elect 63 = .ok (.ireturn, 1) := by decide +kernel
theorem dX2_furthest_0 : decode cX2_furthest 0 = .ok (.iconst (-1), 1) := by decide +kernel
theorem dX2_furthest_1 : decode cX2_furthest 1 = .ok (.istore 4, 2) := by decide +kernel
theorem dX2_furthest_3 : decode cX2_furthest 3 = .ok (.iconst (-1), 1) := by decide +kernel
theorem dX2_furthest_4 : decode cX2_furthest 4 = .ok (.istore 5, 2) := by decide +kernel
theorem dX2_furthest_6 : decode cX2_furthest 6 = .ok (.iconst 0, 1) := by decide +kernel
theorem dX2_furthest_7 : decode cX2_furthest 7 = .ok (.istore 6, 2) := by decide +kernel
theorem dX2_furthest_9 : decode cX2_furthest 9 = .ok (.iload 6, 2) := by decide +kernel
theorem dX2_furthest_11 : decode cX2_furthest 11 = .ok (.aload_n 1, 1) := by decide +kernel
theorem dX2_furthest_12 : decode cX2_furthest 12 = .ok (.getfield 19, 3) := by decide +kernel
theorem dX2_furthest_15 : decode cX2_furthest 15 = .ok (.if_icmp .ge 54, 3) := by decide +kernel
theorem dX2_furthest_18 : decode cX2_furthest 18 = .ok (.aload_n 2, 1) := by decide +kernel
theorem dX2_furthest_19 : decode cX2_furthest 19 = .ok (.getfield 47, 3) := by decide +kernel
theorem dX2_furthest_22 : decode cX2_furthest 22 = .ok (.aload_n 0, 1) := by decide +kernel
theorem dX2_furthest_23 : decode cX2_furthest 23 = .ok (.getfield 9, 3) := by decide +kernel
theorem dX2_furthest_26 : decode cX2_furthest 26 = .ok (.iload 6, 2) := by decide +kernel
theorem dX2_furthest_28 : decode cX2_furthest 28 = .ok (.iaload, 1) := by decide +kernel
theorem dX2_furthest_29 : decode cX2_furthest 29 = .ok (.iaload, 1) := by decide +kernel
theorem dX2_furthest_30 : decode cX2_furthest 30 = .ok (.istore 7, 2) := by decide +kernel
theorem dX2_furthest_32 : decode cX2_furthest 32 = .ok (.iload_n 3, 1) := by decide +kernel
theorem dX2_furthest_33 : decode cX2_furthest 33 = .ok (.iload 6, 2) := by decide +kernel
theorem dX2_furthest_35 : decode cX2_furthest 35 = .ok (.invokestatic 52, 3) := by decide +kernel
theorem dX2_furthest_38 : decode cX2_furthest 38 = .ok (.ifCond .ne 25, 3) := by decide +kernel
theorem dX2_furthest_41 : decode cX2_furthest 41 = .ok (.iload 7, 2) := by decide +kernel
theorem dX2_furthest_43 : decode cX2_furthest 43 = .ok (.bipush 99, 2) := by decide +kernel
theorem dX2_furthest_45 : decode cX2_furthest 45 = .ok (.if_icmp .eq 18, 3) := by decide +kernel
theorem dX2_furthest_48 : decode cX2_furthest 48 = .ok (.iload 7, 2) := by decide +kernel
theorem dX2_furthest_50 : decode cX2_furthest 50 = .ok (.iload 5, 2) := by decide +kernel
theorem dX2_furthest_52 : decode cX2_furthest 52 = .ok (.if_icmp .le 11, 3) := by decide +kernel
theorem dX2_furthest_55 : decode cX2_furthest 55 = .ok (.iload 6, 2) := by decide +kernel
theorem dX2_furthest_57 : decode cX2_furthest 57 = .ok (.istore 4, 2) := by decide +kernel
theorem dX2_furthest_59 : decode cX2_furthest 59 = .ok (.iload 7, 2) := by decide +kernel
theorem dX2_furthest_61 : decode cX2_furthest 61 = .ok (.istore 5, 2) := by decide +kernel
theorem dX2_furthest_63 : decode cX2_furthest 63 = .ok (.iinc 6 1, 3) := by decide +kernel
theorem dX2_furthest_66 : decode cX2_furthest 66 = .ok (.goto (-57), 3) := by decide +kernel
theorem dX2_furthest_69 : decode cX2_furthest 69 = .ok (.iload 4, 2) := by decide +kernel
theorem dX2_furthest_71 : decode cX2_furthest 71 = .ok (.ireturn, 1) := by decide +kernel
theorem dX2_crowdedSquare_0 : decode cX2_crowdedSquare 0 = .ok (.iconst (-1), 1) := by decide +kernel
theorem dX2_crowdedSquare_1 : decode cX2_crowdedSquare 1 = .ok (.istore_n 2, 1) := by decide +kernel
theorem dX2_crowdedSquare_2 : decode cX2_crowdedSquare 2 = .ok (.iconst 0, 1) := by decide +kernel
theorem dX2_crowdedSquare_3 : decode cX2_crowdedSquare 3 = .ok (.istore_n 3, 1) := by decide +kernel
theorem dX2_crowdedSquare_4 : decode cX2_crowdedSquare 4 = .ok (.iconst 0, 1) := by decide +kernel
theorem dX2_crowdedSquare_5 : decode cX2_crowdedSquare 5 = .ok (.istore 4, 2) := by decide +kernel
theorem dX2_crowdedSquare_7 : decode cX2_crowdedSquare 7 = .ok (.iload 4, 2) := by decide +kernel
theorem dX2_crowdedSquare_9 : decode cX2_crowdedSquare 9 = .ok (.bipush 49, 2) := by decide +kernel
theorem dX2_crowdedSquare_11 : decode cX2_crowdedSquare 11 = .ok (.if_icmp .ge 64, 3) := by decide +kernel
theorem dX2_crowdedSquare_14 : decode cX2_crowdedSquare 14 = .ok (.iconst 0, 1) := by decide +kernel
theorem dX2_crowdedSquare_15 : decode cX2_crowdedSquare 15 = .ok (.istore 5, 2) := by decide +kernel
theorem dX2_crowdedSquare_17 : decode cX2_crowdedSquare 17 = .ok (.iconst 0, 1) := by decide +kernel
theorem dX2_crowdedSquare_18 : decode cX2_crowdedSquare 18 = .ok (.istore 6, 2) := by decide +kernel
theorem dX2_crowdedSquare_20 : decode cX2_crowdedSquare 20 = .ok (.iload 6, 2) := by decide +kernel
theorem dX2_crowdedSquare_22 : decode cX2_crowdedSquare 22 = .ok (.aload_n 1, 1) := by decide +kernel
theorem dX2_crowdedSquare_23 : decode cX2_crowdedSquare 23 = .ok (.getfield 19, 3) := by decide +kernel
theorem dX2_crowdedSquare_26 : decode cX2_crowdedSquare 26 = .ok (.if_icmp .ge 31, 3) := by decide +kernel
theorem dX2_crowdedSquare_29 : decode cX2_crowdedSquare 29 = .ok (.iload 5, 2) := by decide +kernel
theorem dX2_crowdedSquare_31 : decode cX2_crowdedSquare 31 = .ok (.aload_n 0, 1) := by decide +kernel
theorem dX2_crowdedSquare_32 : decode cX2_crowdedSquare 32 = .ok (.getfield 9, 3) := by decide +kernel
theorem dX2_crowdedSquare_35 : decode cX2_crowdedSquare 35 = .ok (.iload 6, 2) := by decide +kernel
theorem dX2_crowdedSquare_37 : decode cX2_crowdedSquare 37 = .ok (.iaload, 1) := by decide +kernel
theorem dX2_crowdedSquare_38 : decode cX2_crowdedSquare 38 = .ok (.iload 4, 2) := by decide +kernel
theorem dX2_crowdedSquare_40 : decode cX2_crowdedSquare 40 = .ok (.if_icmp .ne 7, 3) := by decide +kernel
theorem dX2_crowdedSquare_43 : decode cX2_crowdedSquare 43 = .ok (.iconst 1, 1) := by decide +kernel
theorem dX2_crowdedSquare_44 : decode cX2_crowdedSquare 44 = .ok (.goto 4, 3) := by decide +kernel
theorem dX2_crowdedSquare_47 : decode cX2_crowdedSquare 47 = .ok (.iconst 0, 1) := by decide +kernel
theorem dX2_crowdedSquare_48 : decode cX2_crowdedSquare 48 = .ok (.iadd, 1) := by decide +kernel
theorem dX2_crowdedSquare_49 : decode cX2_crowdedSquare 49 = .ok (.istore 5, 2) := by decide +kernel
theorem dX2_crowdedSquare_51 : decode cX2_crowdedSquare 51 = .ok (.iinc 6 1, 3) := by decide +kernel
theorem dX2_crowdedSquare_54 : decode cX2_crowdedSquare 54 = .ok (.goto (-34), 3) := by decide +kernel
theorem dX2_crowdedSquare_57 : decode cX2_crowdedSquare 57 = .ok (.iload 5, 2) := by decide +kernel
theorem dX2_crowdedSquare_59 : decode cX2_crowdedSquare 59 = .ok (.iload_n 3, 1) := by decide +kernel
theorem dX2_crowdedSquare_60 : decode cX2_crowdedSquare 60 = .ok (.if_icmp .le 9, 3) := by decide +kernel
theorem dX2_crowdedSquare_63 : decode cX2_crowdedSquare 63 = .ok (.iload 4, 2) := by decide +kernel
theorem dX2_crowdedSquare_65 : decode cX2_crowdedSquare 65 = .ok (.istore_n 2, 1) := by decide +kernel
theorem dX2_crowdedSquare_66 : decode cX2_crowdedSquare 66 = .ok (.iload 5, 2) := by decide +kernel
theorem dX2_crowdedSquare_68 : decode cX2_crowdedSquare 68 = .ok (.istore_n 3, 1) := by decide +kernel
theorem dX2_crowdedSquare_69 : decode cX2_crowdedSquare 69 = .ok (.iinc 4 1, 3) := by decide +kernel
theorem dX2_crowdedSquare_72 : decode cX2_crowdedSquare 72 = .ok (.goto (-65), 3) := by decide +kernel
theorem dX2_crowdedSquare_75 : decode cX2_crowdedSquare 75 = .ok (.iload_n 2, 1) := by decide +kernel
theorem dX2_crowdedSquare_76 : decode cX2_crowdedSquare 76 = .ok (.ireturn, 1) := by decide +kernel
theorem dX2_trackWants_0 : decode cX2_trackWants 0 = .ok (.aload_n 0, 1) := by decide +kernel
theorem dX2_trackWants_1 : decode cX2_trackWants 1 = .ok (.getfield 15, 3) := by decide +kernel
theorem dX2_trackWants_4 : decode cX2_trackWants 4 = .ok (.lconst 0, 1) := by decide +kernel
theorem dX2_trackWants_5 : decode cX2_trackWants 5 = .ok (.invokestatic 56, 3) := by decide +kernel
theorem dX2_trackWants_8 : decode cX2_trackWants 8 = .ok (.iconst 0, 1) := by decide +kernel
theorem dX2_trackWants_9 : decode cX2_trackWants 9 = .ok (.istore 4, 2) := by decide +kernel
theorem dX2_trackWants_11 : decode cX2_trackWants 11 = .ok (.iload 4, 2) := by decide +kernel
theorem dX2_trackWants_13 : decode cX2_trackWants 13 = .ok (.bipush 20, 2) := by decide +kernel
theorem dX2_trackWants_15 : decode cX2_trackWants 15 = .ok (.if_icmp .gt 74, 3) := by decide +kernel
theorem dX2_trackWants_18 : decode cX2_trackWants 18 = .ok (.aload_n 1, 1) := by decide +kernel
theorem dX2_trackWants_19 : decode cX2_trackWants 19 = .ok (.getfield 62, 3) := by decide +kernel
theorem dX2_trackWants_22 : decode cX2_trackWants 22 = .ok (.iload_n 3, 1) := by decide +kernel
theorem dX2_trackWants_23 : decode cX2_trackWants 23 = .ok (.iload 4, 2) := by decide +kernel
theorem dX2_trackWants_25 : decode cX2_trackWants 25 = .ok (.iastore, 1) := by decide +kernel
theorem dX2_trackWants_26 : decode cX2_trackWants 26 = .ok (.aload_n 1, 1) := by decide +kernel
theorem dX2_trackWants_27 : decode cX2_trackWants 27 = .ok (.getfield 25, 3) := by decide +kernel
theorem dX2_trackWants_30 : decode cX2_trackWants 30 = .ok (.iload_n 3, 1) := by decide +kernel
theorem dX2_trackWants_31 : decode cX2_trackWants 31 = .ok (.iaload, 1) := by decide +kernel
theorem dX2_trackWants_32 : decode cX2_trackWants 32 = .ok (.istore 5, 2) := by decide +kernel
theorem dX2_trackWants_34 : decode cX2_trackWants 34 = .ok (.iconst 1, 1) := by decide +kernel
theorem dX2_trackWants_35 : decode cX2_trackWants 35 = .ok (.istore 6, 2) := by decide +kernel
theorem dX2_trackWants_37 : decode cX2_trackWants 37 = .ok (.iload 6, 2) := by decide +kernel
theorem dX2_trackWants_39 : decode cX2_trackWants 39 = .ok (.bipush 30, 2) := by decide +kernel
theorem dX2_trackWants_41 : decode cX2_trackWants 41 = .ok (.if_icmp .gt 42, 3) := by decide +kernel
theorem dX2_trackWants_44 : decode cX2_trackWants 44 = .ok (.aload_n 1, 1) := by decide +kernel
theorem dX2_trackWants_45 : decode cX2_trackWants 45 = .ok (.aload_n 2, 1) := by decide +kernel
theorem dX2_trackWants_46 : decode cX2_trackWants 46 = .ok (.iload_n 3, 1) := by decide +kernel
theorem dX2_trackWants_47 : decode cX2_trackWants 47 = .ok (.iload 5, 2) := by decide +kernel
theorem dX2_trackWants_49 : decode cX2_trackWants 49 = .ok (.aload_n 1, 1) := by decide +kernel
theorem dX2_trackWants_50 : decode cX2_trackWants 50 = .ok (.getfield 26, 3) := by decide +kernel
theorem dX2_trackWants_53 : decode cX2_trackWants 53 = .ok (.iload 6, 2) := by decide +kernel
theorem dX2_trackWants_55 : decode cX2_trackWants 55 = .ok (.iadd, 1) := by decide +kernel
theorem dX2_trackWants_56 : decode cX2_trackWants 56 = .ok (.iconst 1, 1) := by decide +kernel
theorem dX2_trackWants_57 : decode cX2_trackWants 57 = .ok (.isub, 1) := by decide +kernel
theorem dX2_trackWants_58 : decode cX2_trackWants 58 = .ok (.invokevirtual 29, 3) := by decide +kernel
theorem dX2_trackWants_61 : decode cX2_trackWants 61 = .ok (.istore 5, 2) := by decide +kernel
theorem dX2_trackWants_63 : decode cX2_trackWants 63 = .ok (.aload_n 0, 1) := by decide +kernel
theorem dX2_trackWants_64 : decode cX2_trackWants 64 = .ok (.getfield 15, 3) := by decide +kernel
theorem dX2_trackWants_67 : decode cX2_trackWants 67 = .ok (.iload 6, 2) := by decide +kernel
theorem dX2_trackWants_69 : decode cX2_trackWants 69 = .ok (.dup2, 1) := by decide +kernel
theorem dX2_trackWants_70 : decode cX2_trackWants 70 = .ok (.laload, 1) := by decide +kernel
theorem dX2_trackWants_71 : decode cX2_trackWants 71 = .ok (.lconst 1, 1) := by decide +kernel
theorem dX2_trackWants_72 : decode cX2_trackWants 72 = .ok (.iload 5, 2) := by decide +kernel
theorem dX2_trackWants_74 : decode cX2_trackWants 74 = .ok (.lshl, 1) := by decide +kernel
theorem dX2_trackWants_75 : decode cX2_trackWants 75 = .ok (.lor, 1) := by decide +kernel
theorem dX2_trackWants_76 : decode cX2_trackWants 76 = .ok (.lastore, 1) := by decide +kernel
theorem dX2_trackWants_77 : decode cX2_trackWants 77 = .ok (.iinc 6 1, 3) := by decide +kernel
theorem dX2_trackWants_80 : decode cX2_trackWants 80 = .ok (.goto (-43), 3) := by decide +kernel
theorem dX2_trackWants_83 : decode cX2_trackWants 83 = .ok (.iinc 4 1, 3) := by decide +kernel
theorem dX2_trackWants_86 : decode cX2_trackWants 86 = .ok (.goto (-75), 3) := by decide +kernel
theorem dX2_trackWants_89 : decode cX2_trackWants 89 = .ok (.return_, 1) := by decide +kernel
theorem dX2_yardsOfMostTracks_0 : decode cX2_yardsOfMostTracks 0 = .ok (.iconst 1, 1) := by decide +kernel
theorem dX2_yardsOfMostTracks_1 : decode cX2_yardsOfMostTracks 1 = .ok (.istore_n 1, 1) := by decide +kernel
theorem dX2_yardsOfMostTracks_2 : decode cX2_yardsOfMostTracks 2 = .ok (.iconst 2, 1) := by decide +kernel
theorem dX2_yardsOfMostTracks_3 : decode cX2_yardsOfMostTracks 3 = .ok (.istore_n 2, 1) := by decide +kernel
theorem dX2_yardsOfMostTracks_4 : decode cX2_yardsOfMostTracks 4 = .ok (.iload_n 2, 1) := by decide +kernel
theorem dX2_yardsOfMostTracks_5 : decode cX2_yardsOfMostTracks 5 = .ok (.bipush 30, 2) := by decide +kernel
theorem dX2_yardsOfMostTracks_7 : decode cX2_yardsOfMostTracks 7 = .ok (.if_icmp .gt 32, 3) := by decide +kernel
theorem dX2_yardsOfMostTracks_10 : decode cX2_yardsOfMostTracks 10 = .ok (.aload_n 0, 1) := by decide +kernel
theorem dX2_yardsOfMostTracks_11 : decode cX2_yardsOfMostTracks 11 = .ok (.getfield 15, 3) := by decide +kernel
theorem dX2_yardsOfMostTracks_14 : decode cX2_yardsOfMostTracks 14 = .ok (.iload_n 2, 1) := by decide +kernel
theorem dX2_yardsOfMostTracks_15 : decode cX2_yardsOfMostTracks 15 = .ok (.laload, 1) := by decide +kernel
theorem dX2_yardsOfMostTracks_16 : decode cX2_yardsOfMostTracks 16 = .ok (.invokestatic 65, 3) := by decide +kernel
theorem dX2_yardsOfMostTracks_19 : decode cX2_yardsOfMostTracks 19 = .ok (.aload_n 0, 1) := by decide +kernel
theorem dX2_yardsOfMostTracks_20 : decode cX2_yardsOfMostTracks 20 = .ok (.getfield 15, 3) := by decide +kernel
theorem dX2_yardsOfMostTracks_23 : decode cX2_yardsOfMostTracks 23 = .ok (.iload_n 1, 1) := by decide +kernel
theorem dX2_yardsOfMostTracks_24 : decode cX2_yardsOfMostTracks 24 = .ok (.laload, 1) := by decide +kernel
theorem dX2_yardsOfMostTracks_25 : decode cX2_yardsOfMostTracks 25 = .ok (.invokestatic 65, 3) := by decide +kernel
theorem dX2_yardsOfMostTracks_28 : decode cX2_yardsOfMostTracks 28 = .ok (.if_icmp .le 5, 3) := by decide +kernel
theorem dX2_yardsOfMostTracks_31 : decode cX2_yardsOfMostTracks 31 = .ok (.iload_n 2, 1) := by decide +kernel
theorem dX2_yardsOfMostTracks_32 : decode cX2_yardsOfMostTracks 32 = .ok (.istore_n 1, 1) := by decide +kernel
theorem dX2_yardsOfMostTracks_33 : decode cX2_yardsOfMostTracks 33 = .ok (.iinc 2 1, 3) := by decide +kernel
theorem dX2_yardsOfMostTracks_36 : decode cX2_yardsOfMostTracks 36 = .ok (.goto (-32), 3) := by decide +kernel
theorem dX2_yardsOfMostTracks_39 : decode cX2_yardsOfMostTracks 39 = .ok (.iload_n 1, 1) := by decide +kernel
theorem dX2_yardsOfMostTracks_40 : decode cX2_yardsOfMostTracks 40 = .ok (.ireturn, 1) := by decide +kernel
theorem dX3_isKind_0 : decode cX3_isKind 0 = .ok (.iload_n 0, 1) := by decide +kernel
theorem dX3_isKind_1 : decode cX3_isKind 1 = .ok (.iconst 0, 1) := by decide +kernel
theorem dX3_isKind_2 : decode cX3_isKind 2 = .ok (.bipush 6, 2) := by decide +kernel
theorem dX3_isKind_4 : decode cX3_isKind 4 = .ok (.invokestatic 11, 3) := by decide +kernel
theorem dX3_isKind_7 : decode cX3_isKind 7 = .ok (.ireturn, 1) := by decide +kernel
theorem dX3_nextAbove_0 : decode cX3_nextAbove 0 = .ok (.iload_n 0, 1) := by decide +kernel
theorem dX3_nextAbove_1 : decode cX3_nextAbove 1 = .ok (.invokestatic 15, 3) := by decide +kernel
theorem dX3_nextAbove_4 : decode cX3_nextAbove 4 = .ok (.ifCond .eq 11, 3) := by decide +kernel
theorem dX3_nextAbove_7 : decode cX3_nextAbove 7 = .ok (.getstatic 19, 3) := by decide +kernel
theorem dX3_nextAbove_10 : decode cX3_nextAbove 10 = .ok (.iload_n 0, 1) := by decide +kernel
theorem dX3_nextAbove_11 : decode cX3_nextAbove 11 = .ok (.iaload, 1) := by decide +kernel
theorem dX3_nextAbove_12 : decode cX3_nextAbove 12 = .ok (.goto 4, 3) := by decide +kernel
theorem dX3_nextAbove_15 : decode cX3_nextAbove 15 = .ok (.iconst (-1), 1) := by decide +kernel
theorem dX3_nextAbove_16 : decode cX3_nextAbove 16 = .ok (.ireturn, 1) := by decide +kernel
theorem dX3_isUnder_0 : decode cX3_isUnder 0 = .ok (.iload_n 0, 1) := by decide +kernel
theorem dX3_isUnder_1 : decode cX3_isUnder 1 = .ok (.istore_n 2, 1) := by decide +kernel
theorem dX3_isUnder_2 : decode cX3_isUnder 2 = .ok (.iconst 0, 1) := by decide +kernel
theorem dX3_isUnder_3 : decode cX3_isUnder 3 = .ok (.istore_n 3, 1) := by decide +kernel
theorem dX3_isUnder_4 : decode cX3_isUnder 4 = .ok (.iload_n 3, 1) := by decide +kernel
theorem dX3_isUnder_5 : decode cX3_isUnder 5 = .ok (.bipush 7, 2) := by decide +kernel
theorem dX3_isUnder_7 : decode cX3_isUnder 7 = .ok (.if_icmp .ge 26, 3) := by decide +kernel
theorem dX3_isUnder_10 : decode cX3_isUnder 10 = .ok (.iload_n 2, 1) := by decide +kernel
theorem dX3_isUnder_11 : decode cX3_isUnder 11 = .ok (.iconst (-1), 1) := by decide +kernel
theorem dX3_isUnder_12 : decode cX3_isUnder 12 = .ok (.if_icmp .eq 21, 3) := by decide +kernel
theorem dX3_isUnder_15 : decode cX3_isUnder 15 = .ok (.iload_n 2, 1) := by decide +kernel
theorem dX3_isUnder_16 : decode cX3_isUnder 16 = .ok (.iload_n 1, 1) := by decide +kernel
theorem dX3_isUnder_17 : decode cX3_isUnder 17 = .ok (.if_icmp .ne 5, 3) := by decide +kernel
theorem dX3_isUnder_20 : decode cX3_isUnder 20 = .ok (.iconst 1, 1) := by decide +kernel
theorem dX3_isUnder_21 : decode cX3_isUnder 21 = .ok (.ireturn, 1) := by decide +kernel
theorem dX3_isUnder_22 : decode cX3_isUnder 22 = .ok (.iload_n 2, 1) := by decide +kernel
theorem dX3_isUnder_23 : decode cX3_isUnder 23 = .ok (.invokestatic 23, 3) := by decide +kernel
theorem dX3_isUnder_26 : decode cX3_isUnder 26 = .ok (.istore_n 2, 1) := by decide +kernel
theorem dX3_isUnder_27 : decode cX3_isUnder 27 = .ok (.iinc 3 1, 3) := by decide +kernel
theorem dX3_isUnder_30 : decode cX3_isUnder 30 = .ok (.goto (-26), 3) := by decide +kernel
theorem dX3_isUnder_33 : decode cX3_isUnder 33 = .ok (.iconst 0, 1) := by decide +kernel
theorem dX3_isUnder_34 : decode cX3_isUnder 34 = .ok (.ireturn, 1) := by decide +kernel
theorem dX3_isFleeing_0 : decode cX3_isFleeing 0 = .ok (.iload_n 0, 1) := by decide +kernel
theorem dX3_isFleeing_1 : decode cX3_isFleeing 1 = .ok (.tableswitch 55 1 6 #[39, 55, 39, 53, 55, 39], 39) := by decide +kernel
theorem dX3_isFleeing_40 : decode cX3_isFleeing 40 = .ok (.iload_n 2, 1) := by decide +kernel
theorem dX3_isFleeing_41 : decode cX3_isFleeing 41 = .ok (.bipush 10, 2) := by decide +kernel
theorem dX3_isFleeing_43 : decode cX3_isFleeing 43 = .ok (.iload_n 1, 1) := by decide +kernel
theorem dX3_isFleeing_44 : decode cX3_isFleeing 44 = .ok (.iadd, 1) := by decide +kernel
theorem dX3_isFleeing_45 : decode cX3_isFleeing 45 = .ok (.if_icmp .ge 7, 3) := by decide +kernel
theorem dX3_isFleeing_48 : decode cX3_isFleeing 48 = .ok (.iconst 1, 1) := by decide +kernel
theorem dX3_isFleeing_49 : decode cX3_isFleeing 49 = .ok (.goto 4, 3) := by decide +kernel
theorem dX3_isFleeing_52 : decode cX3_isFleeing 52 = .ok (.iconst 0, 1) := by decide +kernel
theorem dX3_isFleeing_53 : decode cX3_isFleeing 53 = .ok (.ireturn, 1) := by decide +kernel
theorem dX3_isFleeing_54 : decode cX3_isFleeing 54 = .ok (.iconst 0, 1) := by decide +kernel
theorem dX3_isFleeing_55 : decode cX3_isFleeing 55 = .ok (.ireturn, 1) := by decide +kernel
theorem dX3_isFleeing_56 : decode cX3_isFleeing 56 = .ok (.iload_n 2, 1) := by decide +kernel
theorem dX3_isFleeing_57 : decode cX3_isFleeing 57 = .ok (.bipush 10, 2) := by decide +kernel
theorem dX3_isFleeing_59 : decode cX3_isFleeing 59 = .ok (.if_icmp .ge 7, 3) := by decide +kernel
theorem dX3_isFleeing_62 : decode cX3_isFleeing 62 = .ok (.iconst 1, 1) := by decide +kernel
theorem dX3_isFleeing_63 : decode cX3_isFleeing 63 = .ok (.goto 4, 3) := by decide +kernel
theorem dX3_isFleeing_66 : decode cX3_isFleeing 66 = .ok (.iconst 0, 1) := by decide +kernel
theorem dX3_isFleeing_67 : decode cX3_isFleeing 67 = .ok (.ireturn, 1) := by decide +kernel
theorem dX3_smell_0 : decode cX3_smell 0 = .ok (.iload_n 0, 1) := by decide +kernel
theorem dX3_smell_1 : decode cX3_smell 1 = .ok (.tableswitch 49 2 6 #[35, 39, 49, 35, 43], 35) := by decide +kernel
theorem dX3_smell_36 : decode cX3_smell 36 = .ok (.iload_n 2, 1) := by decide +kernel
theorem dX3_smell_37 : decode cX3_smell 37 = .ok (.iconst 2, 1) := by decide +kernel
theorem dX3_smell_38 : decode cX3_smell 38 = .ok (.idiv, 1) := by decide +kernel
theorem dX3_smell_39 : decode cX3_smell 39 = .ok (.ireturn, 1) := by decide +kernel
theorem dX3_smell_40 : decode cX3_smell 40 = .ok (.iload_n 2, 1) := by decide +kernel
theorem dX3_smell_41 : decode cX3_smell 41 = .ok (.iload_n 1, 1) := by decide +kernel
theorem dX3_smell_42 : decode cX3_smell 42 = .ok (.iadd, 1) := by decide +kernel
theorem dX3_smell_43 : decode cX3_smell 43 = .ok (.ireturn, 1) := by decide +kernel
theorem dX3_smell_44 : decode cX3_smell 44 = .ok (.iload_n 2, 1) := by decide +kernel
theorem dX3_smell_45 : decode cX3_smell 45 = .ok (.iload_n 1, 1) := by decide +kernel
theorem dX3_smell_46 : decode cX3_smell 46 = .ok (.iadd, 1) := by decide +kernel
theorem dX3_smell_47 : decode cX3_smell 47 = .ok (.iconst 3, 1) := by decide +kernel
theorem dX3_smell_48 : decode cX3_smell 48 = .ok (.iadd, 1) := by decide +kernel
theorem dX3_smell_49 : decode cX3_smell 49 = .ok (.ireturn, 1) := by decide +kernel
theorem dX3_smell_50 : decode cX3_smell 50 = .ok (.iload_n 2, 1) := by decide +kernel
theorem dX3_smell_51 : decode cX3_smell 51 = .ok (.ireturn, 1) := by decide +kernel
theorem dX3_pace_0 : decode cX3_pace 0 = .ok (.iload_n 0, 1) := by decide +kernel
theorem dX3_pace_1 : decode cX3_pace 1 = .ok (.tableswitch 63 2 6 #[35, 63, 63, 41, 59], 35) := by decide +kernel
theorem dX3_pace_36 : decode cX3_pace 36 = .ok (.iload_n 2, 1) := by decide +kernel
theorem dX3_pace_37 : decode cX3_pace 37 = .ok (.iconst 1, 1) := by decide +kernel
theorem dX3_pace_38 : decode cX3_pace 38 = .ok (.iadd, 1) := by decide +kernel
theorem dX3_pace_39 : decode cX3_pace 39 = .ok (.iconst 2, 1) := by decide +kernel
theorem dX3_pace_40 : decode cX3_pace 40 = .ok (.idiv, 1) := by decide +kernel
theorem dX3_pace_41 : decode cX3_pace 41 = .ok (.ireturn, 1) := by decide +kernel
theorem dX3_pace_42 : decode cX3_pace 42 = .ok (.iload_n 3, 1) := by decide +kernel
theorem dX3_pace_43 : decode cX3_pace 43 = .ok (.iload_n 1, 1) := by decide +kernel
theorem dX3_pace_44 : decode cX3_pace 44 = .ok (.iconst 2, 1) := by decide +kernel
theorem dX3_pace_45 : decode cX3_pace 45 = .ok (.iadd, 1) := by decide +kernel
theorem dX3_pace_46 : decode cX3_pace 46 = .ok (.irem, 1) := by decide +kernel
theorem dX3_pace_47 : decode cX3_pace 47 = .ok (.ifCond .ne 7, 3) := by decide +kernel
theorem dX3_pace_50 : decode cX3_pace 50 = .ok (.iconst 0, 1) := by decide +kernel
theorem dX3_pace_51 : decode cX3_pace 51 = .ok (.goto 8, 3) := by decide +kernel
theorem dX3_pace_54 : decode cX3_pace 54 = .ok (.iload_n 2, 1) := by decide +kernel
theorem dX3_pace_55 : decode cX3_pace 55 = .ok (.iconst 1, 1) := by decide +kernel
theorem dX3_pace_56 : decode cX3_pace 56 = .ok (.iadd, 1) := by decide +kernel
theorem dX3_pace_57 : decode cX3_pace 57 = .ok (.iconst 2, 1) := by decide +kernel
theorem dX3_pace_58 : decode cX3_pace 58 = .ok (.idiv, 1) := by decide +kernel
theorem dX3_pace_59 : decode cX3_pace 59 = .ok (.ireturn, 1) := by decide +kernel
theorem dX3_pace_60 : decode cX3_pace 60 = .ok (.iload_n 2, 1) := by decide +kernel
theorem dX3_pace_61 : decode cX3_pace 61 = .ok (.iconst 1, 1) := by decide +kernel
theorem dX3_pace_62 : decode cX3_pace 62 = .ok (.iadd, 1) := by decide +kernel
theorem dX3_pace_63 : decode cX3_pace 63 = .ok (.ireturn, 1) := by decide +kernel
theorem dX3_pace_64 : decode cX3_pace 64 = .ok (.iload_n 2, 1) := by decide +kernel
theorem dX3_pace_65 : decode cX3_pace 65 = .ok (.ireturn, 1) := by decide +kernel
theorem dX4_init_0 : decode cX4_init 0 = .ok (.aload_n 0, 1) := by decide +kernel
theorem dX4_init_1 : decode cX4_init 1 = .ok (.invokespecial 3, 3) := by decide +kernel
theorem dX4_init_4 : decode cX4_init 4 = .ok (.aload_n 0, 1) := by decide +kernel
theorem dX4_init_5 : decode cX4_init 5 = .ok (.bipush 7, 2) := by decide +kernel
theorem dX4_init_7 : decode cX4_init 7 = .ok (.newarray .int, 2) := by decide +kernel
theorem dX4_init_9 : decode cX4_init 9 = .ok (.putfield 9, 3) := by decide +kernel
theorem dX4_init_12 : decode cX4_init 12 = .ok (.aload_n 0, 1) := by decide +kernel
theorem dX4_init_13 : decode cX4_init 13 = .ok (.bipush 7, 2) := by decide +kernel
theorem dX4_init_15 : decode cX4_init 15 = .ok (.newarray .int, 2) := by decide +kernel
theorem dX4_init_17 : decode cX4_init 17 = .ok (.putfield 15, 3) := by decide +kernel
theorem dX4_init_20 : decode cX4_init 20 = .ok (.aload_n 0, 1) := by decide +kernel
theorem dX4_init_21 : decode cX4_init 21 = .ok (.bipush 7, 2) := by decide +kernel
theorem dX4_init_23 : decode cX4_init 23 = .ok (.newarray .int, 2) := by decide +kernel
theorem dX4_init_25 : decode cX4_init 25 = .ok (.putfield 18, 3) := by decide +kernel
theorem dX4_init_28 : decode cX4_init 28 = .ok (.aload_n 0, 1) := by decide +kernel
theorem dX4_init_29 : decode cX4_init 29 = .ok (.bipush 7, 2) := by decide +kernel
theorem dX4_init_31 : decode cX4_init 31 = .ok (.newarray .int, 2) := by decide +kernel
theorem dX4_init_33 : decode cX4_init 33 = .ok (.putfield 21, 3) := by decide +kernel
theorem dX4_init_36 : decode cX4_init 36 = .ok (.aload_n 0, 1) := by decide +kernel
theorem dX4_init_37 : decode cX4_init 37 = .ok (.bipush 7, 2) := by decide +kernel
theorem dX4_init_39 : decode cX4_init 39 = .ok (.newarray .int, 2) := by decide +kernel
theorem dX4_init_41 : decode cX4_init 41 = .ok (.putfield 24, 3) := by decide +kernel
theorem dX4_init_44 : decode cX4_init 44 = .ok (.aload_n 0, 1) := by decide +kernel
theorem dX4_init_45 : decode cX4_init 45 = .ok (.bipush 7, 2) := by decide +kernel
theorem dX4_init_47 : decode cX4_init 47 = .ok (.newarray .int, 2) := by decide +kernel
theorem dX4_init_49 : decode cX4_init 49 = .ok (.putfield 27, 3) := by decide +kernel
theorem dX4_init_52 : decode cX4_init 52 = .ok (.aload_n 0, 1) := by decide +kernel
theorem dX4_init_53 : decode cX4_init 53 = .ok (.iconst 0, 1) := by decide +kernel
theorem dX4_init_54 : decode cX4_init 54 = .ok (.putfield 30, 3) := by decide +kernel
theorem dX4_init_57 : decode cX4_init 57 = .ok (.aload_n 0, 1) := by decide +kernel
theorem dX4_init_58 : decode cX4_init 58 = .ok (.lconst 0, 1) := by decide +kernel
theorem dX4_init_59 : decode cX4_init 59 = .ok (.putfield 34, 3) := by decide +kernel
theorem dX4_init_62 : decode cX4_init 62 = .ok (.aload_n 0, 1) := by decide +kernel
theorem dX4_init_63 : decode cX4_init 63 = .ok (.iconst 2, 1) := by decide +kernel
theorem dX4_init_64 : decode cX4_init 64 = .ok (.putfield 38, 3) := by decide +kernel
theorem dX4_init_67 : decode cX4_init 67 = .ok (.aload_n 0, 1) := by decide +kernel
theorem dX4_init_68 : decode cX4_init 68 = .ok (.bipush 20, 2) := by decide +kernel
theorem dX4_init_70 : decode cX4_init 70 = .ok (.putfield 41, 3) := by decide +kernel
theorem dX4_init_73 : decode cX4_init 73 = .ok (.aload_n 0, 1) := by decide +kernel
theorem dX4_init_74 : decode cX4_init 74 = .ok (.iconst 0, 1) := by decide +kernel
theorem dX4_init_75 : decode cX4_init 75 = .ok (.putfield 44, 3) := by decide +kernel
theorem dX4_init_78 : decode cX4_init 78 = .ok (.aload_n 0, 1) := by decide +kernel
theorem dX4_init_79 : decode cX4_init 79 = .ok (.iconst 0, 1) := by decide +kernel
theorem dX4_init_80 : decode cX4_init 80 = .ok (.putfield 47, 3) := by decide +kernel
theorem dX4_init_83 : decode cX4_init 83 = .ok (.aload_n 0, 1) := by decide +kernel
theorem dX4_init_84 : decode cX4_init 84 = .ok (.iconst 1, 1) := by decide +kernel
theorem dX4_init_85 : decode cX4_init 85 = .ok (.putfield 50, 3) := by decide +kernel
theorem dX4_init_88 : decode cX4_init 88 = .ok (.return_, 1) := by decide +kernel
theorem dX4_takeFrom_0 : decode cX4_takeFrom 0 = .ok (.aload_n 1, 1) := by decide +kernel
theorem dX4_takeFrom_1 : decode cX4_takeFrom 1 = .ok (.getfield 9, 3) := by decide +kernel
theorem dX4_takeFrom_4 : decode cX4_takeFrom 4 = .ok (.iconst 0, 1) := by decide +kernel
theorem dX4_takeFrom_5 : decode cX4_takeFrom 5 = .ok (.aload_n 0, 1) := by decide +kernel
theorem dX4_takeFrom_6 : decode cX4_takeFrom 6 = .ok (.getfield 9, 3) := by decide +kernel
theorem dX4_takeFrom_9 : decode cX4_takeFrom 9 = .ok (.iconst 0, 1) := by decide +kernel
theorem dX4_takeFrom_10 : decode cX4_takeFrom 10 = .ok (.bipush 7, 2) := by decide +kernel
theorem dX4_takeFrom_12 : decode cX4_takeFrom 12 = .ok (.invokestatic 53, 3) := by decide +kernel
theorem dX4_takeFrom_15 : decode cX4_takeFrom 15 = .ok (.aload_n 1, 1) := by decide +kernel
theorem dX4_takeFrom_16 : decode cX4_takeFrom 16 = .ok (.getfield 15, 3) := by decide +kernel
theorem dX4_takeFrom_19 : decode cX4_takeFrom 19 = .ok (.iconst 0, 1) := by decide +kernel
theorem dX4_takeFrom_20 : decode cX4_takeFrom 20 = .ok (.aload_n 0, 1) := by decide +kernel
theorem dX4_takeFrom_21 : decode cX4_takeFrom 21 = .ok (.getfield 15, 3) := by decide +kernel
theorem dX4_takeFrom_24 : decode cX4_takeFrom 24 = .ok (.iconst 0, 1) := by decide +kernel
theorem dX4_takeFrom_25 : decode cX4_takeFrom 25 = .ok (.bipush 7, 2) := by decide +kernel
theorem dX4_takeFrom_27 : decode cX4_takeFrom 27 = .ok (.invokestatic 53, 3) := by decide +kernel
theorem dX4_takeFrom_30 : decode cX4_takeFrom 30 = .ok (.aload_n 1, 1) := by decide +kernel
theorem dX4_takeFrom_31 : decode cX4_takeFrom 31 = .ok (.getfield 18, 3) := by decide +kernel
theorem dX4_takeFrom_34 : decode cX4_takeFrom 34 = .ok (.iconst 0, 1) := by decide +kernel
theorem dX4_takeFrom_35 : decode cX4_takeFrom 35 = .ok (.aload_n 0, 1) := by decide +kernel
theorem dX4_takeFrom_36 : decode cX4_takeFrom 36 = .ok (.getfield 18, 3) := by decide +kernel
theorem dX4_takeFrom_39 : decode cX4_takeFrom 39 = .ok (.iconst 0, 1) := by decide +kernel
theorem dX4_takeFrom_40 : decode cX4_takeFrom 40 = .ok (.bipush 7, 2) := by decide +kernel
theorem dX4_takeFrom_42 : decode cX4_takeFrom 42 = .ok (.invokestatic 53, 3) := by decide +kernel
theorem dX4_takeFrom_45 : decode cX4_takeFrom 45 = .ok (.aload_n 1, 1) := by decide +kernel
theorem dX4_takeFrom_46 : decode cX4_takeFrom 46 = .ok (.getfield 21, 3) := by decide +kernel
theorem dX4_takeFrom_49 : decode cX4_takeFrom 49 = .ok (.iconst 0, 1) := by decide +kernel
theorem dX4_takeFrom_50 : decode cX4_takeFrom 50 = .ok (.aload_n 0, 1) := by decide +kernel
theorem dX4_takeFrom_51 : decode cX4_takeFrom 51 = .ok (.getfield 21, 3) := by decide +kernel
theorem dX4_takeFrom_54 : decode cX4_takeFrom 54 = .ok (.iconst 0, 1) := by decide +kernel
theorem dX4_takeFrom_55 : decode cX4_takeFrom 55 = .ok (.bipush 7, 2) := by decide +kernel
theorem dX4_takeFrom_57 : decode cX4_takeFrom 57 = .ok (.invokestatic 53, 3) := by decide +kernel
theorem dX4_takeFrom_60 : decode cX4_takeFrom 60 = .ok (.aload_n 1, 1) := by decide +kernel
theorem dX4_takeFrom_61 : decode cX4_takeFrom 61 = .ok (.getfield 24, 3) := by decide +kernel
theorem dX4_takeFrom_64 : decode cX4_takeFrom 64 = .ok (.iconst 0, 1) := by decide +kernel
theorem dX4_takeFrom_65 : decode cX4_takeFrom 65 = .ok (.aload_n 0, 1) := by decide +kernel
theorem dX4_takeFrom_66 : decode cX4_takeFrom 66 = .ok (.getfield 24, 3) := by decide +kernel
theorem dX4_takeFrom_69 : decode cX4_takeFrom 69 = .ok (.iconst 0, 1) := by decide +kernel
theorem dX4_takeFrom_70 : decode cX4_takeFrom 70 = .ok (.bipush 7, 2) := by decide +kernel
theorem dX4_takeFrom_72 : decode cX4_takeFrom 72 = .ok (.invokestatic 53, 3) := by decide +kernel
theorem dX4_takeFrom_75 : decode cX4_takeFrom 75 = .ok (.aload_n 1, 1) := by decide +kernel
theorem dX4_takeFrom_76 : decode cX4_takeFrom 76 = .ok (.getfield 27, 3) := by decide +kernel
theorem dX4_takeFrom_79 : decode cX4_takeFrom 79 = .ok (.iconst 0, 1) := by decide +kernel
theorem dX4_takeFrom_80 : decode cX4_takeFrom 80 = .ok (.aload_n 0, 1) := by decide +kernel
theorem dX4_takeFrom_81 : decode cX4_takeFrom 81 = .ok (.getfield 27, 3) := by decide +kernel
theorem dX4_takeFrom_84 : decode cX4_takeFrom 84 = .ok (.iconst 0, 1) := by decide +kernel
theorem dX4_takeFrom_85 : decode cX4_takeFrom 85 = .ok (.bipush 7, 2) := by decide +kernel
theorem dX4_takeFrom_87 : decode cX4_takeFrom 87 = .ok (.invokestatic 53, 3) := by decide +kernel
theorem dX4_takeFrom_90 : decode cX4_takeFrom 90 = .ok (.aload_n 0, 1) := by decide +kernel
theorem dX4_takeFrom_91 : decode cX4_takeFrom 91 = .ok (.aload_n 1, 1) := by decide +kernel
theorem dX4_takeFrom_92 : decode cX4_takeFrom 92 = .ok (.getfield 30, 3) := by decide +kernel
theorem dX4_takeFrom_95 : decode cX4_takeFrom 95 = .ok (.putfield 30, 3) := by decide +kernel
theorem dX4_takeFrom_98 : decode cX4_takeFrom 98 = .ok (.aload_n 0, 1) := by decide +kernel
theorem dX4_takeFrom_99 : decode cX4_takeFrom 99 = .ok (.aload_n 1, 1) := by decide +kernel
theorem dX4_takeFrom_100 : decode cX4_takeFrom 100 = .ok (.getfield 34, 3) := by decide +kernel
theorem dX4_takeFrom_103 : decode cX4_takeFrom 103 = .ok (.putfield 34, 3) := by decide +kernel
theorem dX4_takeFrom_106 : decode cX4_takeFrom 106 = .ok (.aload_n 0, 1) := by decide +kernel
theorem dX4_takeFrom_107 : decode cX4_takeFrom 107 = .ok (.aload_n 1, 1) := by decide +kernel
theorem dX4_takeFrom_108 : decode cX4_takeFrom 108 = .ok (.getfield 38, 3) := by decide +kernel
theorem dX4_takeFrom_111 : decode cX4_takeFrom 111 = .ok (.putfield 38, 3) := by decide +kernel
theorem dX4_takeFrom_114 : decode cX4_takeFrom 114 = .ok (.aload_n 0, 1) := by decide +kernel
theorem dX4_takeFrom_115 : decode cX4_takeFrom 115 = .ok (.aload_n 1, 1) := by decide +kernel
theorem dX4_takeFrom_116 : decode cX4_takeFrom 116 = .ok (.getfield 41, 3) := by decide +kernel
theorem dX4_takeFrom_119 : decode cX4_takeFrom 119 = .ok (.putfield 41, 3) := by decide +kernel
theorem dX4_takeFrom_122 : decode cX4_takeFrom 122 = .ok (.aload_n 0, 1) := by decide +kernel
theorem dX4_takeFrom_123 : decode cX4_takeFrom 123 = .ok (.aload_n 1, 1) := by decide +kernel
theorem dX4_takeFrom_124 : decode cX4_takeFrom 124 = .ok (.getfield 44, 3) := by decide +kernel
theorem dX4_takeFrom_127 : decode cX4_takeFrom 127 = .ok (.putfield 44, 3) := by decide +kernel
theorem dX4_takeFrom_130 : decode cX4_takeFrom 130 = .ok (.aload_n 0, 1) := by decide +kernel
theorem dX4_takeFrom_131 : decode cX4_takeFrom 131 = .ok (.aload_n 1, 1) := by decide +kernel
theorem dX4_takeFrom_132 : decode cX4_takeFrom 132 = .ok (.getfield 47, 3) := by decide +kernel
theorem dX4_takeFrom_135 : decode cX4_takeFrom 135 = .ok (.putfield 47, 3) := by decide +kernel
theorem dX4_takeFrom_138 : decode cX4_takeFrom 138 = .ok (.aload_n 0, 1) := by decide +kernel
theorem dX4_takeFrom_139 : decode cX4_takeFrom 139 = .ok (.aload_n 1, 1) := by decide +kernel
theorem dX4_takeFrom_140 : decode cX4_takeFrom 140 = .ok (.getfield 50, 3) := by decide +kernel
theorem dX4_takeFrom_143 : decode cX4_takeFrom 143 = .ok (.putfield 50, 3) := by decide +kernel
theorem dX4_takeFrom_146 : decode cX4_takeFrom 146 = .ok (.return_, 1) := by decide +kernel
theorem dX4_isPerson_0 : decode cX4_isPerson 0 = .ok (.iload_n 1, 1) := by decide +kernel
theorem dX4_isPerson_1 : decode cX4_isPerson 1 = .ok (.ifCond .lt 15, 3) := by decide +kernel
theorem dX4_isPerson_4 : decode cX4_isPerson 4 = .ok (.iload_n 1, 1) := by decide +kernel
theorem dX4_isPerson_5 : decode cX4_isPerson 5 = .ok (.aload_n 0, 1) := by decide +kernel
theorem dX4_isPerson_6 : decode cX4_isPerson 6 = .ok (.getfield 30, 3) := by decide +kernel
theorem dX4_isPerson_9 : decode cX4_isPerson 9 = .ok (.if_icmp .ge 7, 3) := by decide +kernel
theorem dX4_isPerson_12 : decode cX4_isPerson 12 = .ok (.iconst 1, 1) := by decide +kernel
theorem dX4_isPerson_13 : decode cX4_isPerson 13 = .ok (.goto 4, 3) := by decide +kernel
theorem dX4_isPerson_16 : decode cX4_isPerson 16 = .ok (.iconst 0, 1) := by decide +kernel
theorem dX4_isPerson_17 : decode cX4_isPerson 17 = .ok (.ireturn, 1) := by decide +kernel
theorem dX4_hasRoom_0 : decode cX4_hasRoom 0 = .ok (.aload_n 0, 1) := by decide +kernel
theorem dX4_hasRoom_1 : decode cX4_hasRoom 1 = .ok (.getfield 30, 3) := by decide +kernel
theorem dX4_hasRoom_4 : decode cX4_hasRoom 4 = .ok (.bipush 7, 2) := by decide +kernel
theorem dX4_hasRoom_6 : decode cX4_hasRoom 6 = .ok (.if_icmp .ge 7, 3) := by decide +kernel
theorem dX4_hasRoom_9 : decode cX4_hasRoom 9 = .ok (.iconst 1, 1) := by decide +kernel
theorem dX4_hasRoom_10 : decode cX4_hasRoom 10 = .ok (.goto 4, 3) := by decide +kernel
theorem dX4_hasRoom_13 : decode cX4_hasRoom 13 = .ok (.iconst 0, 1) := by decide +kernel
theorem dX4_hasRoom_14 : decode cX4_hasRoom 14 = .ok (.ireturn, 1) := by decide +kernel
theorem dX4_areAllThere_0 : decode cX4_areAllThere 0 = .ok (.iload_n 1, 1) := by decide +kernel
theorem dX4_areAllThere_1 : decode cX4_areAllThere 1 = .ok (.aload_n 0, 1) := by decide +kernel
theorem dX4_areAllThere_2 : decode cX4_areAllThere 2 = .ok (.getfield 30, 3) := by decide +kernel
theorem dX4_areAllThere_5 : decode cX4_areAllThere 5 = .ok (.iushr, 1) := by decide +kernel
theorem dX4_areAllThere_6 : decode cX4_areAllThere 6 = .ok (.ifCond .ne 7, 3) := by decide +kernel
theorem dX4_areAllThere_9 : decode cX4_areAllThere 9 = .ok (.iconst 1, 1) := by decide +kernel
theorem dX4_areAllThere_10 : decode cX4_areAllThere 10 = .ok (.goto 4, 3) := by decide +kernel
theorem dX4_areAllThere_13 : decode cX4_areAllThere 13 = .ok (.iconst 0, 1) := by decide +kernel
theorem dX4_areAllThere_14 : decode cX4_areAllThere 14 = .ok (.ireturn, 1) := by decide +kernel
theorem dX4_addPerson_0 : decode cX4_addPerson 0 = .ok (.aload_n 0, 1) := by decide +kernel
theorem dX4_addPerson_1 : decode cX4_addPerson 1 = .ok (.invokevirtual 59, 3) := by decide +kernel
theorem dX4_addPerson_4 : decode cX4_addPerson 4 = .ok (.ifCond .ne 5, 3) := by decide +kernel
theorem dX4_addPerson_7 : decode cX4_addPerson 7 = .ok (.iconst (-1), 1) := by decide +kernel
theorem dX4_addPerson_8 : decode cX4_addPerson 8 = .ok (.ireturn, 1) := by decide +kernel
theorem dX4_addPerson_9 : decode cX4_addPerson 9 = .ok (.aload_n 0, 1) := by decide +kernel
theorem dX4_addPerson_10 : decode cX4_addPerson 10 = .ok (.getfield 30, 3) := by decide +kernel
theorem dX4_addPerson_13 : decode cX4_addPerson 13 = .ok (.istore 6, 2) := by decide +kernel
theorem dX4_addPerson_15 : decode cX4_addPerson 15 = .ok (.aload_n 0, 1) := by decide +kernel
theorem dX4_addPerson_16 : decode cX4_addPerson 16 = .ok (.getfield 9, 3) := by decide +kernel
theorem dX4_addPerson_19 : decode cX4_addPerson 19 = .ok (.iload 6, 2) := by decide +kernel
theorem dX4_addPerson_21 : decode cX4_addPerson 21 = .ok (.iload_n 1, 1) := by decide +kernel
theorem dX4_addPerson_22 : decode cX4_addPerson 22 = .ok (.iastore, 1) := by decide +kernel
theorem dX4_addPerson_23 : decode cX4_addPerson 23 = .ok (.aload_n 0, 1) := by decide +kernel
theorem dX4_addPerson_24 : decode cX4_addPerson 24 = .ok (.getfield 15, 3) := by decide +kernel
theorem dX4_addPerson_27 : decode cX4_addPerson 27 = .ok (.iload 6, 2) := by decide +kernel
theorem dX4_addPerson_29 : decode cX4_addPerson 29 = .ok (.iload_n 2, 1) := by decide +kernel
theorem dX4_addPerson_30 : decode cX4_addPerson 30 = .ok (.iastore, 1) := by decide +kernel
theorem dX4_addPerson_31 : decode cX4_addPerson 31 = .ok (.aload_n 0, 1) := by decide +kernel
theorem dX4_addPerson_32 : decode cX4_addPerson 32 = .ok (.getfield 18, 3) := by decide +kernel
theorem dX4_addPerson_35 : decode cX4_addPerson 35 = .ok (.iload 6, 2) := by decide +kernel
theorem dX4_addPerson_37 : decode cX4_addPerson 37 = .ok (.iload_n 3, 1) := by decide +kernel
theorem dX4_addPerson_38 : decode cX4_addPerson 38 = .ok (.iastore, 1) := by decide +kernel
theorem dX4_addPerson_39 : decode cX4_addPerson 39 = .ok (.aload_n 0, 1) := by decide +kernel
theorem dX4_addPerson_40 : decode cX4_addPerson 40 = .ok (.getfield 21, 3) := by decide +kernel
theorem dX4_addPerson_43 : decode cX4_addPerson 43 = .ok (.iload 6, 2) := by decide +kernel
theorem dX4_addPerson_45 : decode cX4_addPerson 45 = .ok (.iload 4, 2) := by decide +kernel
theorem dX4_addPerson_47 : decode cX4_addPerson 47 = .ok (.iastore, 1) := by decide +kernel
theorem dX4_addPerson_48 : decode cX4_addPerson 48 = .ok (.aload_n 0, 1) := by decide +kernel
theorem dX4_addPerson_49 : decode cX4_addPerson 49 = .ok (.getfield 24, 3) := by decide +kernel
theorem dX4_addPerson_52 : decode cX4_addPerson 52 = .ok (.iload 6, 2) := by decide +kernel
theorem dX4_addPerson_54 : decode cX4_addPerson 54 = .ok (.iload 5, 2) := by decide +kernel
theorem dX4_addPerson_56 : decode cX4_addPerson 56 = .ok (.iastore, 1) := by decide +kernel
theorem dX4_addPerson_57 : decode cX4_addPerson 57 = .ok (.aload_n 0, 1) := by decide +kernel
theorem dX4_addPerson_58 : decode cX4_addPerson 58 = .ok (.getfield 27, 3) := by decide +kernel
theorem dX4_addPerson_61 : decode cX4_addPerson 61 = .ok (.iload 6, 2) := by decide +kernel
theorem dX4_addPerson_63 : decode cX4_addPerson 63 = .ok (.iconst 0, 1) := by decide +kernel
theorem dX4_addPerson_64 : decode cX4_addPerson 64 = .ok (.iastore, 1) := by decide +kernel
theorem dX4_addPerson_65 : decode cX4_addPerson 65 = .ok (.aload_n 0, 1) := by decide +kernel
theorem dX4_addPerson_66 : decode cX4_addPerson 66 = .ok (.dup, 1) := by decide +kernel
theorem dX4_addPerson_67 : decode cX4_addPerson 67 = .ok (.getfield 30, 3) := by decide +kernel
theorem dX4_addPerson_70 : decode cX4_addPerson 70 = .ok (.iconst 1, 1) := by decide +kernel
theorem dX4_addPerson_71 : decode cX4_addPerson 71 = .ok (.iadd, 1) := by decide +kernel
theorem dX4_addPerson_72 : decode cX4_addPerson 72 = .ok (.putfield 30, 3) := by decide +kernel
theorem dX4_addPerson_75 : decode cX4_addPerson 75 = .ok (.iload 6, 2) := by decide +kernel
theorem dX4_addPerson_77 : decode cX4_addPerson 77 = .ok (.ireturn, 1) := by decide +kernel
theorem dX4_isFenced_0 : decode cX4_isFenced 0 = .ok (.iload_n 1, 1) := by decide +kernel
theorem dX4_isFenced_1 : decode cX4_isFenced 1 = .ok (.invokestatic 63, 3) := by decide +kernel
theorem dX4_isFenced_4 : decode cX4_isFenced 4 = .ok (.ifCond .eq 20, 3) := by decide +kernel
theorem dX4_isFenced_7 : decode cX4_isFenced 7 = .ok (.aload_n 0, 1) := by decide +kernel
theorem dX4_isFenced_8 : decode cX4_isFenced 8 = .ok (.getfield 34, 3) := by decide +kernel
theorem dX4_isFenced_11 : decode cX4_isFenced 11 = .ok (.iload_n 1, 1) := by decide +kernel
theorem dX4_isFenced_12 : decode cX4_isFenced 12 = .ok (.lushr, 1) := by decide +kernel
theorem dX4_isFenced_13 : decode cX4_isFenced 13 = .ok (.lconst 1, 1) := by decide +kernel
theorem dX4_isFenced_14 : decode cX4_isFenced 14 = .ok (.land, 1) := by decide +kernel
theorem dX4_isFenced_15 : decode cX4_isFenced 15 = .ok (.lconst 0, 1) := by decide +kernel
theorem dX4_isFenced_16 : decode cX4_isFenced 16 = .ok (.lcmp, 1) := by decide +kernel
theorem dX4_isFenced_17 : decode cX4_isFenced 17 = .ok (.ifCond .eq 7, 3) := by decide +kernel
theorem dX4_isFenced_20 : decode cX4_isFenced 20 = .ok (.iconst 1, 1) := by decide +kernel
theorem dX4_isFenced_21 : decode cX4_isFenced 21 = .ok (.goto 4, 3) := by decide +kernel
theorem dX4_isFenced_24 : decode cX4_isFenced 24 = .ok (.iconst 0, 1) := by decide +kernel
theorem dX4_isFenced_25 : decode cX4_isFenced 25 = .ok (.ireturn, 1) := by decide +kernel
theorem dX4_isOpen_0 : decode cX4_isOpen 0 = .ok (.iload_n 1, 1) := by decide +kernel
theorem dX4_isOpen_1 : decode cX4_isOpen 1 = .ok (.invokestatic 63, 3) := by decide +kernel
theorem dX4_isOpen_4 : decode cX4_isOpen 4 = .ok (.ifCond .eq 15, 3) := by decide +kernel
theorem dX4_isOpen_7 : decode cX4_isOpen 7 = .ok (.aload_n 0, 1) := by decide +kernel
theorem dX4_isOpen_8 : decode cX4_isOpen 8 = .ok (.iload_n 1, 1) := by decide +kernel
theorem dX4_isOpen_9 : decode cX4_isOpen 9 = .ok (.invokevirtual 67, 3) := by decide +kernel
theorem dX4_isOpen_12 : decode cX4_isOpen 12 = .ok (.ifCond .ne 7, 3) := by decide +kernel
theorem dX4_isOpen_15 : decode cX4_isOpen 15 = .ok (.iconst 1, 1) := by decide +kernel
theorem dX4_isOpen_16 : decode cX4_isOpen 16 = .ok (.goto 4, 3) := by decide +kernel
theorem dX4_isOpen_19 : decode cX4_isOpen 19 = .ok (.iconst 0, 1) := by decide +kernel
theorem dX4_isOpen_20 : decode cX4_isOpen 20 = .ok (.ireturn, 1) := by decide +kernel
theorem dX4_mayBeFenced_0 : decode cX4_mayBeFenced 0 = .ok (.iload_n 1, 1) := by decide +kernel
theorem dX4_mayBeFenced_1 : decode cX4_mayBeFenced 1 = .ok (.invokestatic 63, 3) := by decide +kernel
theorem dX4_mayBeFenced_4 : decode cX4_mayBeFenced 4 = .ok (.ifCond .eq 21, 3) := by decide +kernel
theorem dX4_mayBeFenced_7 : decode cX4_mayBeFenced 7 = .ok (.iload_n 1, 1) := by decide +kernel
theorem dX4_mayBeFenced_8 : decode cX4_mayBeFenced 8 = .ok (.bipush 24, 2) := by decide +kernel
theorem dX4_mayBeFenced_10 : decode cX4_mayBeFenced 10 = .ok (.if_icmp .eq 15, 3) := by decide +kernel
theorem dX4_mayBeFenced_13 : decode cX4_mayBeFenced 13 = .ok (.aload_n 0, 1) := by decide +kernel
theorem dX4_mayBeFenced_14 : decode cX4_mayBeFenced 14 = .ok (.iload_n 1, 1) := by decide +kernel
theorem dX4_mayBeFenced_15 : decode cX4_mayBeFenced 15 = .ok (.invokevirtual 70, 3) := by decide +kernel
theorem dX4_mayBeFenced_18 : decode cX4_mayBeFenced 18 = .ok (.ifCond .ne 7, 3) := by decide +kernel
theorem dX4_mayBeFenced_21 : decode cX4_mayBeFenced 21 = .ok (.iconst 1, 1) := by decide +kernel
theorem dX4_mayBeFenced_22 : decode cX4_mayBeFenced 22 = .ok (.goto 4, 3) := by decide +kernel
theorem dX4_mayBeFenced_25 : decode cX4_mayBeFenced 25 = .ok (.iconst 0, 1) := by decide +kernel
theorem dX4_mayBeFenced_26 : decode cX4_mayBeFenced 26 = .ok (.ireturn, 1) := by decide +kernel
theorem dX4_putFence_0 : decode cX4_putFence 0 = .ok (.aload_n 0, 1) := by decide +kernel
theorem dX4_putFence_1 : decode cX4_putFence 1 = .ok (.iload_n 2, 1) := by decide +kernel
theorem dX4_putFence_2 : decode cX4_putFence 2 = .ok (.ifCond .eq 14, 3) := by decide +kernel
theorem dX4_putFence_5 : decode cX4_putFence 5 = .ok (.aload_n 0, 1) := by decide +kernel
theorem dX4_putFence_6 : decode cX4_putFence 6 = .ok (.getfield 34, 3) := by decide +kernel
theorem dX4_putFence_9 : decode cX4_putFence 9 = .ok (.lconst 1, 1) := by decide +kernel
theorem dX4_putFence_10 : decode cX4_putFence 10 = .ok (.iload_n 1, 1) := by decide +kernel
theorem dX4_putFence_11 : decode cX4_putFence 11 = .ok (.lshl, 1) := by decide +kernel
theorem dX4_putFence_12 : decode cX4_putFence 12 = .ok (.lor, 1) := by decide +kernel
theorem dX4_putFence_13 : decode cX4_putFence 13 = .ok (.goto 15, 3) := by decide +kernel
theorem dX4_putFence_16 : decode cX4_putFence 16 = .ok (.aload_n 0, 1) := by decide +kernel
theorem dX4_putFence_17 : decode cX4_putFence 17 = .ok (.getfield 34, 3) := by decide +kernel
theorem dX4_putFence_20 : decode cX4_putFence 20 = .ok (.lconst 1, 1) := by decide +kernel
theorem dX4_putFence_21 : decode cX4_putFence 21 = .ok (.iload_n 1, 1) := by decide +kernel
theorem dX4_putFence_22 : decode cX4_putFence 22 = .ok (.lshl, 1) := by decide +kernel
theorem dX4_putFence_23 : decode cX4_putFence 23 = .ok (.ldc2_w 74, 3) := by decide +kernel
theorem dX4_putFence_26 : decode cX4_putFence 26 = .ok (.lxor, 1) := by decide +kernel
theorem dX4_putFence_27 : decode cX4_putFence 27 = .ok (.land, 1) := by decide +kernel
theorem dX4_putFence_28 : decode cX4_putFence 28 = .ok (.putfield 34, 3) := by decide +kernel
theorem dX4_putFence_31 : decode cX4_putFence 31 = .ok (.return_, 1) := by decide +kernel
theorem dX4_peopleAt_0 : decode cX4_peopleAt 0 = .ok (.iconst 0, 1) := by decide +kernel
theorem dX4_peopleAt_1 : decode cX4_peopleAt 1 = .ok (.istore_n 2, 1) := by decide +kernel
theorem dX4_peopleAt_2 : decode cX4_peopleAt 2 = .ok (.iconst 0, 1) := by decide +kernel
theorem dX4_peopleAt_3 : decode cX4_peopleAt 3 = .ok (.istore_n 3, 1) := by decide +kernel
theorem dX4_peopleAt_4 : decode cX4_peopleAt 4 = .ok (.iload_n 3, 1) := by decide +kernel
theorem dX4_peopleAt_5 : decode cX4_peopleAt 5 = .ok (.aload_n 0, 1) := by decide +kernel
theorem dX4_peopleAt_6 : decode cX4_peopleAt 6 = .ok (.getfield 30, 3) := by decide +kernel
theorem dX4_peopleAt_9 : decode cX4_peopleAt 9 = .ok (.if_icmp .ge 29, 3) := by decide +kernel
theorem dX4_peopleAt_12 : decode cX4_peopleAt 12 = .ok (.iload_n 2, 1) := by decide +kernel
theorem dX4_peopleAt_13 : decode cX4_peopleAt 13 = .ok (.aload_n 0, 1) := by decide +kernel
theorem dX4_peopleAt_14 : decode cX4_peopleAt 14 = .ok (.getfield 24, 3) := by decide +kernel
theorem dX4_peopleAt_17 : decode cX4_peopleAt 17 = .ok (.iload_n 3, 1) := by decide +kernel
theorem dX4_peopleAt_18 : decode cX4_peopleAt 18 = .ok (.iaload, 1) := by decide +kernel
theorem dX4_peopleAt_19 : decode cX4_peopleAt 19 = .ok (.iload_n 1, 1) := by decide +kernel
theorem dX4_peopleAt_20 : decode cX4_peopleAt 20 = .ok (.if_icmp .ne 9, 3) := by decide +kernel
theorem dX4_peopleAt_23 : decode cX4_peopleAt 23 = .ok (.iconst 1, 1) := by decide +kernel
theorem dX4_peopleAt_24 : decode cX4_peopleAt 24 = .ok (.iload_n 3, 1) := by decide +kernel
theorem dX4_peopleAt_25 : decode cX4_peopleAt 25 = .ok (.ishl, 1) := by decide +kernel
theorem dX4_peopleAt_26 : decode cX4_peopleAt 26 = .ok (.goto 4, 3) := by decide +kernel
theorem dX4_peopleAt_29 : decode cX4_peopleAt 29 = .ok (.iconst 0, 1) := by decide +kernel
theorem dX4_peopleAt_30 : decode cX4_peopleAt 30 = .ok (.ior, 1) := by decide +kernel
theorem dX4_peopleAt_31 : decode cX4_peopleAt 31 = .ok (.istore_n 2, 1) := by decide +kernel
theorem dX4_peopleAt_32 : decode cX4_peopleAt 32 = .ok (.iinc 3 1, 3) := by decide +kernel
theorem dX4_peopleAt_35 : decode cX4_peopleAt 35 = .ok (.goto (-31), 3) := by decide +kernel
theorem dX4_peopleAt_38 : decode cX4_peopleAt 38 = .ok (.iload_n 2, 1) := by decide +kernel
theorem dX4_peopleAt_39 : decode cX4_peopleAt 39 = .ok (.ireturn, 1) := by decide +kernel
theorem dX4_smellOf_0 : decode cX4_smellOf 0 = .ok (.aload_n 0, 1) := by decide +kernel
theorem dX4_smellOf_1 : decode cX4_smellOf 1 = .ok (.getfield 9, 3) := by decide +kernel
theorem dX4_smellOf_4 : decode cX4_smellOf 4 = .ok (.iload_n 1, 1) := by decide +kernel
theorem dX4_smellOf_5 : decode cX4_smellOf 5 = .ok (.iaload, 1) := by decide +kernel
theorem dX4_smellOf_6 : decode cX4_smellOf 6 = .ok (.aload_n 0, 1) := by decide +kernel
theorem dX4_smellOf_7 : decode cX4_smellOf 7 = .ok (.getfield 15, 3) := by decide +kernel
theorem dX4_smellOf_10 : decode cX4_smellOf 10 = .ok (.iload_n 1, 1) := by decide +kernel
theorem dX4_smellOf_11 : decode cX4_smellOf 11 = .ok (.iaload, 1) := by decide +kernel
theorem dX4_smellOf_12 : decode cX4_smellOf 12 = .ok (.aload_n 0, 1) := by decide +kernel
theorem dX4_smellOf_13 : decode cX4_smellOf 13 = .ok (.getfield 18, 3) := by decide +kernel
theorem dX4_smellOf_16 : decode cX4_smellOf 16 = .ok (.iload_n 1, 1) := by decide +kernel
theorem dX4_smellOf_17 : decode cX4_smellOf 17 = .ok (.iaload, 1) := by decide +kernel
theorem dX4_smellOf_18 : decode cX4_smellOf 18 = .ok (.invokestatic 76, 3) := by decide +kernel
theorem dX4_smellOf_21 : decode cX4_smellOf 21 = .ok (.ireturn, 1) := by decide +kernel
theorem dX4_isFleeing_0 : decode cX4_isFleeing 0 = .ok (.aload_n 0, 1) := by decide +kernel
theorem dX4_isFleeing_1 : decode cX4_isFleeing 1 = .ok (.getfield 9, 3) := by decide +kernel
theorem dX4_isFleeing_4 : decode cX4_isFleeing 4 = .ok (.iload_n 1, 1) := by decide +kernel
theorem dX4_isFleeing_5 : decode cX4_isFleeing 5 = .ok (.iaload, 1) := by decide +kernel
theorem dX4_isFleeing_6 : decode cX4_isFleeing 6 = .ok (.aload_n 0, 1) := by decide +kernel
theorem dX4_isFleeing_7 : decode cX4_isFleeing 7 = .ok (.getfield 15, 3) := by decide +kernel
theorem dX4_isFleeing_10 : decode cX4_isFleeing 10 = .ok (.iload_n 1, 1) := by decide +kernel
theorem dX4_isFleeing_11 : decode cX4_isFleeing 11 = .ok (.iaload, 1) := by decide +kernel
theorem dX4_isFleeing_12 : decode cX4_isFleeing 12 = .ok (.aload_n 0, 1) := by decide +kernel
theorem dX4_isFleeing_13 : decode cX4_isFleeing 13 = .ok (.getfield 18, 3) := by decide +kernel
theorem dX4_isFleeing_16 : decode cX4_isFleeing 16 = .ok (.iload_n 1, 1) := by decide +kernel
theorem dX4_isFleeing_17 : decode cX4_isFleeing 17 = .ok (.iaload, 1) := by decide +kernel
theorem dX4_isFleeing_18 : decode cX4_isFleeing 18 = .ok (.invokestatic 82, 3) := by decide +kernel
theorem dX4_isFleeing_21 : decode cX4_isFleeing 21 = .ok (.ireturn, 1) := by decide +kernel
theorem dX4_isPutOut_0 : decode cX4_isPutOut 0 = .ok (.aload_n 0, 1) := by decide +kernel
theorem dX4_isPutOut_1 : decode cX4_isPutOut 1 = .ok (.iload_n 1, 1) := by decide +kernel
theorem dX4_isPutOut_2 : decode cX4_isPutOut 2 = .ok (.invokevirtual 86, 3) := by decide +kernel
theorem dX4_isPutOut_5 : decode cX4_isPutOut 5 = .ok (.aload_n 0, 1) := by decide +kernel
theorem dX4_isPutOut_6 : decode cX4_isPutOut 6 = .ok (.getfield 41, 3) := by decide +kernel
theorem dX4_isPutOut_9 : decode cX4_isPutOut 9 = .ok (.if_icmp .le 7, 3) := by decide +kernel
theorem dX4_isPutOut_12 : decode cX4_isPutOut 12 = .ok (.iconst 1, 1) := by decide +kernel
theorem dX4_isPutOut_13 : decode cX4_isPutOut 13 = .ok (.goto 4, 3) := by decide +kernel
theorem dX4_isPutOut_16 : decode cX4_isPutOut 16 = .ok (.iconst 0, 1) := by decide +kernel
theorem dX4_isPutOut_17 : decode cX4_isPutOut 17 = .ok (.ireturn, 1) := by decide +kernel
theorem dX4_fleeing_0 : decode cX4_fleeing 0 = .ok (.iconst 0, 1) := by decide +kernel
theorem dX4_fleeing_1 : decode cX4_fleeing 1 = .ok (.istore_n 1, 1) := by decide +kernel
theorem dX4_fleeing_2 : decode cX4_fleeing 2 = .ok (.iconst 0, 1) := by decide +kernel
theorem dX4_fleeing_3 : decode cX4_fleeing 3 = .ok (.istore_n 2, 1) := by decide +kernel
theorem dX4_fleeing_4 : decode cX4_fleeing 4 = .ok (.iload_n 2, 1) := by decide +kernel
theorem dX4_fleeing_5 : decode cX4_fleeing 5 = .ok (.aload_n 0, 1) := by decide +kernel
theorem dX4_fleeing_6 : decode cX4_fleeing 6 = .ok (.getfield 30, 3) := by decide +kernel
theorem dX4_fleeing_9 : decode cX4_fleeing 9 = .ok (.if_icmp .ge 27, 3) := by decide +kernel
theorem dX4_fleeing_12 : decode cX4_fleeing 12 = .ok (.iload_n 1, 1) := by decide +kernel
theorem dX4_fleeing_13 : decode cX4_fleeing 13 = .ok (.aload_n 0, 1) := by decide +kernel
theorem dX4_fleeing_14 : decode cX4_fleeing 14 = .ok (.iload_n 2, 1) := by decide +kernel
theorem dX4_fleeing_15 : decode cX4_fleeing 15 = .ok (.invokevirtual 89, 3) := by decide +kernel
theorem dX4_fleeing_18 : decode cX4_fleeing 18 = .ok (.ifCond .eq 9, 3) := by decide +kernel
theorem dX4_fleeing_21 : decode cX4_fleeing 21 = .ok (.iconst 1, 1) := by decide +kernel
theorem dX4_fleeing_22 : decode cX4_fleeing 22 = .ok (.iload_n 2, 1) := by decide +kernel
theorem dX4_fleeing_23 : decode cX4_fleeing 23 = .ok (.ishl, 1) := by decide +kernel
theorem dX4_fleeing_24 : decode cX4_fleeing 24 = .ok (.goto 4, 3) := by decide +kernel
theorem dX4_fleeing_27 : decode cX4_fleeing 27 = .ok (.iconst 0, 1) := by decide +kernel
theorem dX4_fleeing_28 : decode cX4_fleeing 28 = .ok (.ior, 1) := by decide +kernel
theorem dX4_fleeing_29 : decode cX4_fleeing 29 = .ok (.istore_n 1, 1) := by decide +kernel
theorem dX4_fleeing_30 : decode cX4_fleeing 30 = .ok (.iinc 2 1, 3) := by decide +kernel
theorem dX4_fleeing_33 : decode cX4_fleeing 33 = .ok (.goto (-29), 3) := by decide +kernel
theorem dX4_fleeing_36 : decode cX4_fleeing 36 = .ok (.iload_n 1, 1) := by decide +kernel
theorem dX4_fleeing_37 : decode cX4_fleeing 37 = .ok (.ireturn, 1) := by decide +kernel
theorem dX4_smellingAbove_0 : decode cX4_smellingAbove 0 = .ok (.iconst 0, 1) := by decide +kernel
theorem dX4_smellingAbove_1 : decode cX4_smellingAbove 1 = .ok (.istore_n 2, 1) := by decide +kernel
theorem dX4_smellingAbove_2 : decode cX4_smellingAbove 2 = .ok (.iconst 0, 1) := by decide +kernel
theorem dX4_smellingAbove_3 : decode cX4_smellingAbove 3 = .ok (.istore_n 3, 1) := by decide +kernel
theorem dX4_smellingAbove_4 : decode cX4_smellingAbove 4 = .ok (.iload_n 3, 1) := by decide +kernel
theorem dX4_smellingAbove_5 : decode cX4_smellingAbove 5 = .ok (.aload_n 0, 1) := by decide +kernel
theorem dX4_smellingAbove_6 : decode cX4_smellingAbove 6 = .ok (.getfield 30, 3) := by decide +kernel
theorem dX4_smellingAbove_9 : decode cX4_smellingAbove 9 = .ok (.if_icmp .ge 28, 3) := by decide +kernel
theorem dX4_smellingAbove_12 : decode cX4_smellingAbove 12 = .ok (.iload_n 2, 1) := by decide +kernel
theorem dX4_smellingAbove_13 : decode cX4_smellingAbove 13 = .ok (.aload_n 0, 1) := by decide +kernel
theorem dX4_smellingAbove_14 : decode cX4_smellingAbove 14 = .ok (.iload_n 3, 1) := by decide +kernel
theorem dX4_smellingAbove_15 : decode cX4_smellingAbove 15 = .ok (.invokevirtual 86, 3) := by decide +kernel
theorem dX4_smellingAbove_18 : decode cX4_smellingAbove 18 = .ok (.iload_n 1, 1) := by decide +kernel
theorem dX4_smellingAbove_19 : decode cX4_smellingAbove 19 = .ok (.if_icmp .le 9, 3) := by decide +kernel
theorem dX4_smellingAbove_22 : decode cX4_smellingAbove 22 = .ok (.iconst 1, 1) := by decide +kernel
theorem dX4_smellingAbove_23 : decode cX4_smellingAbove 23 = .ok (.iload_n 3, 1) := by decide +kernel
theorem dX4_smellingAbove_24 : decode cX4_smellingAbove 24 = .ok (.ishl, 1) := by decide +kernel
theorem dX4_smellingAbove_25 : decode cX4_smellingAbove 25 = .ok (.goto 4, 3) := by decide +kernel
theorem dX4_smellingAbove_28 : decode cX4_smellingAbove 28 = .ok (.iconst 0, 1) := by decide +kernel
theorem dX4_smellingAbove_29 : decode cX4_smellingAbove 29 = .ok (.ior, 1) := by decide +kernel
theorem dX4_smellingAbove_30 : decode cX4_smellingAbove 30 = .ok (.istore_n 2, 1) := by decide +kernel
theorem dX4_smellingAbove_31 : decode cX4_smellingAbove 31 = .ok (.iinc 3 1, 3) := by decide +kernel
theorem dX4_smellingAbove_34 : decode cX4_smellingAbove 34 = .ok (.goto (-30), 3) := by decide +kernel
theorem dX4_smellingAbove_37 : decode cX4_smellingAbove 37 = .ok (.iload_n 2, 1) := by decide +kernel
theorem dX4_smellingAbove_38 : decode cX4_smellingAbove 38 = .ok (.ireturn, 1) := by decide +kernel
theorem dX4_afterYard_0 : decode cX4_afterYard 0 = .ok (.aload_n 0, 1) := by decide +kernel
theorem dX4_afterYard_1 : decode cX4_afterYard 1 = .ok (.getfield 9, 3) := by decide +kernel
theorem dX4_afterYard_4 : decode cX4_afterYard 4 = .ok (.iload_n 2, 1) := by decide +kernel
theorem dX4_afterYard_5 : decode cX4_afterYard 5 = .ok (.iaload, 1) := by decide +kernel
theorem dX4_afterYard_6 : decode cX4_afterYard 6 = .ok (.aload_n 0, 1) := by decide +kernel
theorem dX4_afterYard_7 : decode cX4_afterYard 7 = .ok (.getfield 15, 3) := by decide +kernel
theorem dX4_afterYard_10 : decode cX4_afterYard 10 = .ok (.iload_n 2, 1) := by decide +kernel
theorem dX4_afterYard_11 : decode cX4_afterYard 11 = .ok (.iaload, 1) := by decide +kernel
theorem dX4_afterYard_12 : decode cX4_afterYard 12 = .ok (.aload_n 0, 1) := by decide +kernel
theorem dX4_afterYard_13 : decode cX4_afterYard 13 = .ok (.getfield 21, 3) := by decide +kernel
theorem dX4_afterYard_16 : decode cX4_afterYard 16 = .ok (.iload_n 2, 1) := by decide +kernel
theorem dX4_afterYard_17 : decode cX4_afterYard 17 = .ok (.iaload, 1) := by decide +kernel
theorem dX4_afterYard_18 : decode cX4_afterYard 18 = .ok (.iload 4, 2) := by decide +kernel
theorem dX4_afterYard_20 : decode cX4_afterYard 20 = .ok (.invokestatic 91, 3) := by decide +kernel
theorem dX4_afterYard_23 : decode cX4_afterYard 23 = .ok (.istore 5, 2) := by decide +kernel
theorem dX4_afterYard_25 : decode cX4_afterYard 25 = .ok (.aload_n 1, 1) := by decide +kernel
theorem dX4_afterYard_26 : decode cX4_afterYard 26 = .ok (.iload_n 3, 1) := by decide +kernel
theorem dX4_afterYard_27 : decode cX4_afterYard 27 = .ok (.aload_n 0, 1) := by decide +kernel
theorem dX4_afterYard_28 : decode cX4_afterYard 28 = .ok (.iload_n 2, 1) := by decide +kernel
theorem dX4_afterYard_29 : decode cX4_afterYard 29 = .ok (.invokevirtual 89, 3) := by decide +kernel
theorem dX4_afterYard_32 : decode cX4_afterYard 32 = .ok (.iload 5, 2) := by decide +kernel
theorem dX4_afterYard_34 : decode cX4_afterYard 34 = .ok (.invokevirtual 95, 3) := by decide +kernel
theorem dX4_afterYard_37 : decode cX4_afterYard 37 = .ok (.ireturn, 1) := by decide +kernel
theorem dX4_satTogether_0 : decode cX4_satTogether 0 = .ok (.iconst 0, 1) := by decide +kernel
theorem dX4_satTogether_1 : decode cX4_satTogether 1 = .ok (.istore_n 1, 1) := by decide +kernel
theorem dX4_satTogether_2 : decode cX4_satTogether 2 = .ok (.iconst 0, 1) := by decide +kernel
theorem dX4_satTogether_3 : decode cX4_satTogether 3 = .ok (.istore_n 2, 1) := by decide +kernel
theorem dX4_satTogether_4 : decode cX4_satTogether 4 = .ok (.iload_n 2, 1) := by decide +kernel
theorem dX4_satTogether_5 : decode cX4_satTogether 5 = .ok (.aload_n 0, 1) := by decide +kernel
theorem dX4_satTogether_6 : decode cX4_satTogether 6 = .ok (.getfield 30, 3) := by decide +kernel
theorem dX4_satTogether_9 : decode cX4_satTogether 9 = .ok (.if_icmp .ge 18, 3) := by decide +kernel
theorem dX4_satTogether_12 : decode cX4_satTogether 12 = .ok (.iload_n 1, 1) := by decide +kernel
theorem dX4_satTogether_13 : decode cX4_satTogether 13 = .ok (.aload_n 0, 1) := by decide +kernel
theorem dX4_satTogether_14 : decode cX4_satTogether 14 = .ok (.getfield 27, 3) := by decide +kernel
theorem dX4_satTogether_17 : decode cX4_satTogether 17 = .ok (.iload_n 2, 1) := by decide +kernel
theorem dX4_satTogether_18 : decode cX4_satTogether 18 = .ok (.iaload, 1) := by decide +kernel
theorem dX4_satTogether_19 : decode cX4_satTogether 19 = .ok (.iadd, 1) := by decide +kernel
theorem dX4_satTogether_20 : decode cX4_satTogether 20 = .ok (.istore_n 1, 1) := by decide +kernel
theorem dX4_satTogether_21 : decode cX4_satTogether 21 = .ok (.iinc 2 1, 3) := by decide +kernel
theorem dX4_satTogether_24 : decode cX4_satTogether 24 = .ok (.goto (-20), 3) := by decide +kernel
theorem dX4_satTogether_27 : decode cX4_satTogether 27 = .ok (.iload_n 1, 1) := by decide +kernel
theorem dX4_satTogether_28 : decode cX4_satTogether 28 = .ok (.ireturn, 1) := by decide +kernel
theorem dX4_drawBelow_0 : decode cX4_drawBelow 0 = .ok (.aload_n 0, 1) := by decide +kernel
theorem dX4_drawBelow_1 : decode cX4_drawBelow 1 = .ok (.aload_n 0, 1) := by decide +kernel
theorem dX4_drawBelow_2 : decode cX4_drawBelow 2 = .ok (.getfield 50, 3) := by decide +kernel
theorem dX4_drawBelow_5 : decode cX4_drawBelow 5 = .ok (.ldc 101, 2) := by decide +kernel
theorem dX4_drawBelow_7 : decode cX4_drawBelow 7 = .ok (.imul, 1) := by decide +kernel
theorem dX4_drawBelow_8 : decode cX4_drawBelow 8 = .ok (.sipush 12345, 3) := by decide +kernel
theorem dX4_drawBelow_11 : decode cX4_drawBelow 11 = .ok (.iadd, 1) := by decide +kernel
theorem dX4_drawBelow_12 : decode cX4_drawBelow 12 = .ok (.putfield 50, 3) := by decide +kernel
theorem dX4_drawBelow_15 : decode cX4_drawBelow 15 = .ok (.iload_n 1, 1) := by decide +kernel
theorem dX4_drawBelow_16 : decode cX4_drawBelow 16 = .ok (.ifCond .le 15, 3) := by decide +kernel
theorem dX4_drawBelow_19 : decode cX4_drawBelow 19 = .ok (.aload_n 0, 1) := by decide +kernel
theorem dX4_drawBelow_20 : decode cX4_drawBelow 20 = .ok (.getfield 50, 3) := by decide +kernel
theorem dX4_drawBelow_23 : decode cX4_drawBelow 23 = .ok (.bipush 16, 2) := by decide +kernel
theorem dX4_drawBelow_25 : decode cX4_drawBelow 25 = .ok (.iushr, 1) := by decide +kernel
theorem dX4_drawBelow_26 : decode cX4_drawBelow 26 = .ok (.iload_n 1, 1) := by decide +kernel
theorem dX4_drawBelow_27 : decode cX4_drawBelow 27 = .ok (.irem, 1) := by decide +kernel
theorem dX4_drawBelow_28 : decode cX4_drawBelow 28 = .ok (.goto 4, 3) := by decide +kernel
theorem dX4_drawBelow_31 : decode cX4_drawBelow 31 = .ok (.iconst 0, 1) := by decide +kernel
theorem dX4_drawBelow_32 : decode cX4_drawBelow 32 = .ok (.ireturn, 1) := by decide +kernel
theorem dX5_init_0 : decode cX5_init 0 = .ok (.aload_n 0, 1) := by decide +kernel
theorem dX5_init_1 : decode cX5_init 1 = .ok (.invokespecial 3, 3) := by decide +kernel
theorem dX5_init_4 : decode cX5_init 4 = .ok (.aload_n 0, 1) := by decide +kernel
theorem dX5_init_5 : decode cX5_init 5 = .ok (.sipush 160, 3) := by decide +kernel
theorem dX5_init_8 : decode cX5_init 8 = .ok (.newarray .int, 2) := by decide +kernel
theorem dX5_init_10 : decode cX5_init 10 = .ok (.putfield 9, 3) := by decide +kernel
theorem dX5_init_13 : decode cX5_init 13 = .ok (.aload_n 0, 1) := by decide +kernel
theorem dX5_init_14 : decode cX5_init 14 = .ok (.iconst 0, 1) := by decide +kernel
theorem dX5_init_15 : decode cX5_init 15 = .ok (.putfield 15, 3) := by decide +kernel
theorem dX5_init_18 : decode cX5_init 18 = .ok (.aload_n 0, 1) := by decide +kernel
theorem dX5_init_19 : decode cX5_init 19 = .ok (.iconst 0, 1) := by decide +kernel
theorem dX5_init_20 : decode cX5_init 20 = .ok (.putfield 19, 3) := by decide +kernel
theorem dX5_init_23 : decode cX5_init 23 = .ok (.aload_n 0, 1) := by decide +kernel
theorem dX5_init_24 : decode cX5_init 24 = .ok (.iconst 0, 1) := by decide +kernel
theorem dX5_init_25 : decode cX5_init 25 = .ok (.putfield 22, 3) := by decide +kernel
theorem dX5_init_28 : decode cX5_init 28 = .ok (.aload_n 0, 1) := by decide +kernel
theorem dX5_init_29 : decode cX5_init 29 = .ok (.iconst (-1), 1) := by decide +kernel
theorem dX5_init_30 : decode cX5_init 30 = .ok (.putfield 25, 3) := by decide +kernel
theorem dX5_init_33 : decode cX5_init 33 = .ok (.return_, 1) := by decide +kernel
theorem dX5_read_0 : decode cX5_read 0 = .ok (.aload_n 0, 1) := by decide +kernel
theorem dX5_read_1 : decode cX5_read 1 = .ok (.aload_n 1, 1) := by decide +kernel
theorem dX5_read_2 : decode cX5_read 2 = .ok (.getfield 28, 3) := by decide +kernel
theorem dX5_read_5 : decode cX5_read 5 = .ok (.putfield 15, 3) := by decide +kernel
theorem dX5_read_8 : decode cX5_read 8 = .ok (.iconst 0, 1) := by decide +kernel
theorem dX5_read_9 : decode cX5_read 9 = .ok (.istore_n 3, 1) := by decide +kernel
theorem dX5_read_10 : decode cX5_read 10 = .ok (.iload_n 3, 1) := by decide +kernel
theorem dX5_read_11 : decode cX5_read 11 = .ok (.aload_n 0, 1) := by decide +kernel
theorem dX5_read_12 : decode cX5_read 12 = .ok (.getfield 15, 3) := by decide +kernel
theorem dX5_read_15 : decode cX5_read 15 = .ok (.if_icmp .ge 20, 3) := by decide +kernel
theorem dX5_read_18 : decode cX5_read 18 = .ok (.aload_n 0, 1) := by decide +kernel
theorem dX5_read_19 : decode cX5_read 19 = .ok (.getfield 9, 3) := by decide +kernel
theorem dX5_read_22 : decode cX5_read 22 = .ok (.iload_n 3, 1) := by decide +kernel
theorem dX5_read_23 : decode cX5_read 23 = .ok (.aload_n 1, 1) := by decide +kernel
theorem dX5_read_24 : decode cX5_read 24 = .ok (.iload_n 3, 1) := by decide +kernel
theorem dX5_read_25 : decode cX5_read 25 = .ok (.invokevirtual 31, 3) := by decide +kernel
theorem dX5_read_28 : decode cX5_read 28 = .ok (.iastore, 1) := by decide +kernel
theorem dX5_read_29 : decode cX5_read 29 = .ok (.iinc 3 1, 3) := by decide +kernel
theorem dX5_read_32 : decode cX5_read 32 = .ok (.goto (-22), 3) := by decide +kernel
theorem dX5_read_35 : decode cX5_read 35 = .ok (.aload_n 0, 1) := by decide +kernel
theorem dX5_read_36 : decode cX5_read 36 = .ok (.iconst 0, 1) := by decide +kernel
theorem dX5_read_37 : decode cX5_read 37 = .ok (.putfield 19, 3) := by decide +kernel
theorem dX5_read_40 : decode cX5_read 40 = .ok (.aload_n 0, 1) := by decide +kernel
theorem dX5_read_41 : decode cX5_read 41 = .ok (.iconst (-1), 1) := by decide +kernel
theorem dX5_read_42 : decode cX5_read 42 = .ok (.putfield 25, 3) := by decide +kernel
theorem dX5_read_45 : decode cX5_read 45 = .ok (.iconst 0, 1) := by decide +kernel
theorem dX5_read_46 : decode cX5_read 46 = .ok (.istore_n 3, 1) := by decide +kernel
theorem dX5_read_47 : decode cX5_read 47 = .ok (.iconst 1, 1) := by decide +kernel
theorem dX5_read_48 : decode cX5_read 48 = .ok (.istore 4, 2) := by decide +kernel
theorem dX5_read_50 : decode cX5_read 50 = .ok (.iload 4, 2) := by decide +kernel
theorem dX5_read_52 : decode cX5_read 52 = .ok (.ifCond .eq 74, 3) := by decide +kernel
theorem dX5_read_55 : decode cX5_read 55 = .ok (.iload_n 3, 1) := by decide +kernel
theorem dX5_read_56 : decode cX5_read 56 = .ok (.aload_n 0, 1) := by decide +kernel
theorem dX5_read_57 : decode cX5_read 57 = .ok (.getfield 15, 3) := by decide +kernel
theorem dX5_read_60 : decode cX5_read 60 = .ok (.if_icmp .gt 66, 3) := by decide +kernel
theorem dX5_read_63 : decode cX5_read 63 = .ok (.aload_n 0, 1) := by decide +kernel
theorem dX5_read_64 : decode cX5_read 64 = .ok (.aload_n 2, 1) := by decide +kernel
theorem dX5_read_65 : decode cX5_read 65 = .ok (.invokevirtual 35, 3) := by decide +kernel
theorem dX5_read_68 : decode cX5_read 68 = .ok (.iinc 3 1, 3) := by decide +kernel
theorem dX5_read_71 : decode cX5_read 71 = .ok (.aload_n 0, 1) := by decide +kernel
theorem dX5_read_72 : decode cX5_read 72 = .ok (.getfield 25, 3) := by decide +kernel
theorem dX5_read_75 : decode cX5_read 75 = .ok (.iconst (-1), 1) := by decide +kernel
theorem dX5_read_76 : decode cX5_read 76 = .ok (.if_icmp .ne 18, 3) := by decide +kernel
theorem dX5_read_79 : decode cX5_read 79 = .ok (.aload_n 0, 1) := by decide +kernel
theorem dX5_read_80 : decode cX5_read 80 = .ok (.getfield 19, 3) := by decide +kernel
theorem dX5_read_83 : decode cX5_read 83 = .ok (.aload_n 0, 1) := by decide +kernel
theorem dX5_read_84 : decode cX5_read 84 = .ok (.getfield 15, 3) := by decide +kernel
theorem dX5_read_87 : decode cX5_read 87 = .ok (.if_icmp .ge 7, 3) := by decide +kernel
theorem dX5_read_90 : decode cX5_read 90 = .ok (.iconst 1, 1) := by decide +kernel
theorem dX5_read_91 : decode cX5_read 91 = .ok (.goto 4, 3) := by decide +kernel
theorem dX5_read_94 : decode cX5_read 94 = .ok (.iconst 0, 1) := by decide +kernel
theorem dX5_read_95 : decode cX5_read 95 = .ok (.istore 4, 2) := by decide +kernel
theorem dX5_read_97 : decode cX5_read 97 = .ok (.iload 4, 2) := by decide +kernel
theorem dX5_read_99 : decode cX5_read 99 = .ok (.ifCond .eq (-49), 3) := by decide +kernel
theorem dX5_read_102 : decode cX5_read 102 = .ok (.aload_n 0, 1) := by decide +kernel
theorem dX5_read_103 : decode cX5_read 103 = .ok (.bipush 59, 2) := by decide +kernel
theorem dX5_read_105 : decode cX5_read 105 = .ok (.invokevirtual 39, 3) := by decide +kernel
theorem dX5_read_108 : decode cX5_read 108 = .ok (.aload_n 0, 1) := by decide +kernel
theorem dX5_read_109 : decode cX5_read 109 = .ok (.getfield 25, 3) := by decide +kernel
theorem dX5_read_112 : decode cX5_read 112 = .ok (.iconst (-1), 1) := by decide +kernel
theorem dX5_read_113 : decode cX5_read 113 = .ok (.if_icmp .ne 7, 3) := by decide +kernel
theorem dX5_read_116 : decode cX5_read 116 = .ok (.iconst 1, 1) := by decide +kernel
theorem dX5_read_117 : decode cX5_read 117 = .ok (.goto 4, 3) := by decide +kernel
theorem dX5_read_120 : decode cX5_read 120 = .ok (.iconst 0, 1) := by decide +kernel
theorem dX5_read_121 : decode cX5_read 121 = .ok (.istore 4, 2) := by decide +kernel
theorem dX5_read_123 : decode cX5_read 123 = .ok (.goto (-73), 3) := by decide +kernel
theorem dX5_read_126 : decode cX5_read 126 = .ok (.iload_n 3, 1) := by decide +kernel
theorem dX5_read_127 : decode cX5_read 127 = .ok (.ireturn, 1) := by decide +kernel
theorem dX5_readItem_0 : decode cX5_readItem 0 = .ok (.aload_n 0, 1) := by decide +kernel
theorem dX5_readItem_1 : decode cX5_readItem 1 = .ok (.getfield 19, 3) := by decide +kernel
theorem dX5_readItem_4 : decode cX5_readItem 4 = .ok (.istore_n 2, 1) := by decide +kernel
theorem dX5_readItem_5 : decode cX5_readItem 5 = .ok (.aload_n 0, 1) := by decide +kernel
theorem dX5_readItem_6 : decode cX5_readItem 6 = .ok (.invokevirtual 43, 3) := by decide +kernel
theorem dX5_readItem_9 : decode cX5_readItem 9 = .ok (.istore_n 3, 1) := by decide +kernel
theorem dX5_readItem_10 : decode cX5_readItem 10 = .ok (.iload_n 3, 1) := by decide +kernel
theorem dX5_readItem_11 : decode cX5_readItem 11 = .ok (.iconst 2, 1) := by decide +kernel
theorem dX5_readItem_12 : decode cX5_readItem 12 = .ok (.if_icmp .ne 15, 3) := by decide +kernel
theorem dX5_readItem_15 : decode cX5_readItem 15 = .ok (.aload_n 1, 1) := by decide +kernel
theorem dX5_readItem_16 : decode cX5_readItem 16 = .ok (.invokevirtual 47, 3) := by decide +kernel
theorem dX5_readItem_19 : decode cX5_readItem 19 = .ok (.ifCond .ne 8, 3) := by decide +kernel
theorem dX5_readItem_22 : decode cX5_readItem 22 = .ok (.aload_n 0, 1) := by decide +kernel
theorem dX5_readItem_23 : decode cX5_readItem 23 = .ok (.iload_n 2, 1) := by decide +kernel
theorem dX5_readItem_24 : decode cX5_readItem 24 = .ok (.putfield 25, 3) := by decide +kernel
theorem dX5_readItem_27 : decode cX5_readItem 27 = .ok (.aload_n 0, 1) := by decide +kernel
theorem dX5_readItem_28 : decode cX5_readItem 28 = .ok (.getfield 25, 3) := by decide +kernel
theorem dX5_readItem_31 : decode cX5_readItem 31 = .ok (.iconst (-1), 1) := by decide +kernel
theorem dX5_readItem_32 : decode cX5_readItem 32 = .ok (.if_icmp .eq 4, 3) := by decide +kernel
theorem dX5_readItem_35 : decode cX5_readItem 35 = .ok (.return_, 1) := by decide +kernel
theorem dX5_readItem_36 : decode cX5_readItem 36 = .ok (.iload_n 3, 1) := by decide +kernel
theorem dX5_readItem_37 : decode cX5_readItem 37 = .ok (.tableswitch 68 0 3 #[31, 39, 47, 55], 31) := by decide +kernel
theorem dX5_readItem_68 : decode cX5_readItem 68 = .ok (.aload_n 0, 1) := by decide +kernel
theorem dX5_readItem_69 : decode cX5_readItem 69 = .ok (.aload_n 1, 1) := by decide +kernel
theorem dX5_readItem_70 : decode cX5_readItem 70 = .ok (.invokevirtual 53, 3) := by decide +kernel
theorem dX5_readItem_73 : decode cX5_readItem 73 = .ok (.goto 43, 3) := by decide +kernel
theorem dX5_readItem_76 : decode cX5_readItem 76 = .ok (.aload_n 0, 1) := by decide +kernel
theorem dX5_readItem_77 : decode cX5_readItem 77 = .ok (.aload_n 1, 1) := by decide +kernel
theorem dX5_readItem_78 : decode cX5_readItem 78 = .ok (.invokevirtual 56, 3) := by decide +kernel
theorem dX5_readItem_81 : decode cX5_readItem 81 = .ok (.goto 35, 3) := by decide +kernel
theorem dX5_readItem_84 : decode cX5_readItem 84 = .ok (.aload_n 0, 1) := by decide +kernel
theorem dX5_readItem_85 : decode cX5_readItem 85 = .ok (.aload_n 1, 1) := by decide +kernel
theorem dX5_readItem_86 : decode cX5_readItem 86 = .ok (.invokevirtual 59, 3) := by decide +kernel
theorem dX5_readItem_89 : decode cX5_readItem 89 = .ok (.goto 27, 3) := by decide +kernel
theorem dX5_readItem_92 : decode cX5_readItem 92 = .ok (.aload_n 1, 1) := by decide +kernel
theorem dX5_readItem_93 : decode cX5_readItem 93 = .ok (.aload_n 0, 1) := by decide +kernel
theorem dX5_readItem_94 : decode cX5_readItem 94 = .ok (.iconst 1, 1) := by decide +kernel
theorem dX5_readItem_95 : decode cX5_readItem 95 = .ok (.iconst 4, 1) := by decide +kernel
theorem dX5_readItem_96 : decode cX5_readItem 96 = .ok (.invokevirtual 62, 3) := by decide +kernel
theorem dX5_readItem_99 : decode cX5_readItem 99 = .ok (.putfield 66, 3) := by decide +kernel
theorem dX5_readItem_102 : decode cX5_readItem 102 = .ok (.goto 14, 3) := by decide +kernel
theorem dX5_readItem_105 : decode cX5_readItem 105 = .ok (.aload_n 1, 1) := by decide +kernel
theorem dX5_readItem_106 : decode cX5_readItem 106 = .ok (.aload_n 0, 1) := by decide +kernel
theorem dX5_readItem_107 : decode cX5_readItem 107 = .ok (.iconst 0, 1) := by decide +kernel
theorem dX5_readItem_108 : decode cX5_readItem 108 = .ok (.bipush 40, 2) := by decide +kernel
theorem dX5_readItem_110 : decode cX5_readItem 110 = .ok (.invokevirtual 62, 3) := by decide +kernel
theorem dX5_readItem_113 : decode cX5_readItem 113 = .ok (.putfield 69, 3) := by decide +kernel
theorem dX5_readItem_116 : decode cX5_readItem 116 = .ok (.return_, 1) := by decide +kernel
theorem dX5_readFence_0 : decode cX5_readFence 0 = .ok (.aload_n 0, 1) := by decide +kernel
theorem dX5_readFence_1 : decode cX5_readFence 1 = .ok (.iconst 0, 1) := by decide +kernel
theorem dX5_readFence_2 : decode cX5_readFence 2 = .ok (.bipush 48, 2) := by decide +kernel
theorem dX5_readFence_4 : decode cX5_readFence 4 = .ok (.invokevirtual 62, 3) := by decide +kernel
theorem dX5_readFence_7 : decode cX5_readFence 7 = .ok (.istore_n 2, 1) := by decide +kernel
theorem dX5_readFence_8 : decode cX5_readFence 8 = .ok (.aload_n 0, 1) := by decide +kernel
theorem dX5_readFence_9 : decode cX5_readFence 9 = .ok (.getfield 25, 3) := by decide +kernel
theorem dX5_readFence_12 : decode cX5_readFence 12 = .ok (.iconst (-1), 1) := by decide +kernel
theorem dX5_readFence_13 : decode cX5_readFence 13 = .ok (.if_icmp .ne 19, 3) := by decide +kernel
theorem dX5_readFence_16 : decode cX5_readFence 16 = .ok (.aload_n 1, 1) := by decide +kernel
theorem dX5_readFence_17 : decode cX5_readFence 17 = .ok (.iload_n 2, 1) := by decide +kernel
theorem dX5_readFence_18 : decode cX5_readFence 18 = .ok (.invokevirtual 72, 3) := by decide +kernel
theorem dX5_readFence_21 : decode cX5_readFence 21 = .ok (.ifCond .ne 11, 3) := by decide +kernel
theorem dX5_readFence_24 : decode cX5_readFence 24 = .ok (.aload_n 0, 1) := by decide +kernel
theorem dX5_readFence_25 : decode cX5_readFence 25 = .ok (.aload_n 0, 1) := by decide +kernel
theorem dX5_readFence_26 : decode cX5_readFence 26 = .ok (.getfield 22, 3) := by decide +kernel
theorem dX5_readFence_29 : decode cX5_readFence 29 = .ok (.putfield 25, 3) := by decide +kernel
theorem dX5_readFence_32 : decode cX5_readFence 32 = .ok (.aload_n 0, 1) := by decide +kernel
theorem dX5_readFence_33 : decode cX5_readFence 33 = .ok (.getfield 25, 3) := by decide +kernel
theorem dX5_readFence_36 : decode cX5_readFence 36 = .ok (.iconst (-1), 1) := by decide +kernel
theorem dX5_readFence_37 : decode cX5_readFence 37 = .ok (.if_icmp .ne 9, 3) := by decide +kernel
theorem dX5_readFence_40 : decode cX5_readFence 40 = .ok (.aload_n 1, 1) := by decide +kernel
theorem dX5_readFence_41 : decode cX5_readFence 41 = .ok (.iload_n 2, 1) := by decide +kernel
theorem dX5_readFence_42 : decode cX5_readFence 42 = .ok (.iconst 1, 1) := by decide +kernel
theorem dX5_readFence_43 : decode cX5_readFence 43 = .ok (.invokevirtual 76, 3) := by decide +kernel
theorem dX5_readFence_46 : decode cX5_readFence 46 = .ok (.return_, 1) := by decide +kernel
theorem dX5_readOpen_0 : decode cX5_readOpen 0 = .ok (.aload_n 0, 1) := by decide +kernel
theorem dX5_readOpen_1 : decode cX5_readOpen 1 = .ok (.iconst 0, 1) := by decide +kernel
theorem dX5_readOpen_2 : decode cX5_readOpen 2 = .ok (.bipush 48, 2) := by decide +kernel
theorem dX5_readOpen_4 : decode cX5_readOpen 4 = .ok (.invokevirtual 62, 3) := by decide +kernel
theorem dX5_readOpen_7 : decode cX5_readOpen 7 = .ok (.istore_n 2, 1) := by decide +kernel
theorem dX5_readOpen_8 : decode cX5_readOpen 8 = .ok (.aload_n 0, 1) := by decide +kernel
theorem dX5_readOpen_9 : decode cX5_readOpen 9 = .ok (.getfield 25, 3) := by decide +kernel
theorem dX5_readOpen_12 : decode cX5_readOpen 12 = .ok (.iconst (-1), 1) := by decide +kernel
theorem dX5_readOpen_13 : decode cX5_readOpen 13 = .ok (.if_icmp .ne 9, 3) := by decide +kernel
theorem dX5_readOpen_16 : decode cX5_readOpen 16 = .ok (.aload_n 1, 1) := by decide +kernel
theorem dX5_readOpen_17 : decode cX5_readOpen 17 = .ok (.iload_n 2, 1) := by decide +kernel
theorem dX5_readOpen_18 : decode cX5_readOpen 18 = .ok (.iconst 0, 1) := by decide +kernel
theorem dX5_readOpen_19 : decode cX5_readOpen 19 = .ok (.invokevirtual 76, 3) := by decide +kernel
theorem dX5_readOpen_22 : decode cX5_readOpen 22 = .ok (.return_, 1) := by decide +kernel
theorem dX5_readPerson_0 : decode cX5_readPerson 0 = .ok (.aload_n 0, 1) := by decide +kernel
theorem dX5_readPerson_1 : decode cX5_readPerson 1 = .ok (.iconst 0, 1) := by decide +kernel
theorem dX5_readPerson_2 : decode cX5_readPerson 2 = .ok (.bipush 6, 2) := by decide +kernel
theorem dX5_readPerson_4 : decode cX5_readPerson 4 = .ok (.invokevirtual 62, 3) := by decide +kernel
theorem dX5_readPerson_7 : decode cX5_readPerson 7 = .ok (.istore_n 2, 1) := by decide +kernel
theorem dX5_readPerson_8 : decode cX5_readPerson 8 = .ok (.aload_n 0, 1) := by decide +kernel
theorem dX5_readPerson_9 : decode cX5_readPerson 9 = .ok (.iconst 0, 1) := by decide +kernel
theorem dX5_readPerson_10 : decode cX5_readPerson 10 = .ok (.bipush 9, 2) := by decide +kernel
theorem dX5_readPerson_12 : decode cX5_readPerson 12 = .ok (.invokevirtual 62, 3) := by decide +kernel
theorem dX5_readPerson_15 : decode cX5_readPerson 15 = .ok (.istore_n 3, 1) := by decide +kernel
theorem dX5_readPerson_16 : decode cX5_readPerson 16 = .ok (.aload_n 0, 1) := by decide +kernel
theorem dX5_readPerson_17 : decode cX5_readPerson 17 = .ok (.iconst 0, 1) := by decide +kernel
theorem dX5_readPerson_18 : decode cX5_readPerson 18 = .ok (.bipush 20, 2) := by decide +kernel
theorem dX5_readPerson_20 : decode cX5_readPerson 20 = .ok (.invokevirtual 62, 3) := by decide +kernel
theorem dX5_readPerson_23 : decode cX5_readPerson 23 = .ok (.istore 4, 2) := by decide +kernel
theorem dX5_readPerson_25 : decode cX5_readPerson 25 = .ok (.aload_n 0, 1) := by decide +kernel
theorem dX5_readPerson_26 : decode cX5_readPerson 26 = .ok (.iconst 1, 1) := by decide +kernel
theorem dX5_readPerson_27 : decode cX5_readPerson 27 = .ok (.iconst 4, 1) := by decide +kernel
theorem dX5_readPerson_28 : decode cX5_readPerson 28 = .ok (.invokevirtual 62, 3) := by decide +kernel
theorem dX5_readPerson_31 : decode cX5_readPerson 31 = .ok (.istore 5, 2) := by decide +kernel
theorem dX5_readPerson_33 : decode cX5_readPerson 33 = .ok (.aload_n 0, 1) := by decide +kernel
theorem dX5_readPerson_34 : decode cX5_readPerson 34 = .ok (.iconst 0, 1) := by decide +kernel
theorem dX5_readPerson_35 : decode cX5_readPerson 35 = .ok (.bipush 48, 2) := by decide +kernel
theorem dX5_readPerson_37 : decode cX5_readPerson 37 = .ok (.invokevirtual 62, 3) := by decide +kernel
theorem dX5_readPerson_40 : decode cX5_readPerson 40 = .ok (.istore 6, 2) := by decide +kernel
theorem dX5_readPerson_42 : decode cX5_readPerson 42 = .ok (.aload_n 0, 1) := by decide +kernel
theorem dX5_readPerson_43 : decode cX5_readPerson 43 = .ok (.getfield 25, 3) := by decide +kernel
theorem dX5_readPerson_46 : decode cX5_readPerson 46 = .ok (.iconst (-1), 1) := by decide +kernel
theorem dX5_readPerson_47 : decode cX5_readPerson 47 = .ok (.if_icmp .ne 20, 3) := by decide +kernel
theorem dX5_readPerson_50 : decode cX5_readPerson 50 = .ok (.aload_n 1, 1) := by decide +kernel
theorem dX5_readPerson_51 : decode cX5_readPerson 51 = .ok (.iload 6, 2) := by decide +kernel
theorem dX5_readPerson_53 : decode cX5_readPerson 53 = .ok (.invokevirtual 82, 3) := by decide +kernel
theorem dX5_readPerson_56 : decode cX5_readPerson 56 = .ok (.ifCond .ne 11, 3) := by decide +kernel
theorem dX5_readPerson_59 : decode cX5_readPerson 59 = .ok (.aload_n 0, 1) := by decide +kernel
theorem dX5_readPerson_60 : decode cX5_readPerson 60 = .ok (.aload_n 0, 1) := by decide +kernel
theorem dX5_readPerson_61 : decode cX5_readPerson 61 = .ok (.getfield 22, 3) := by decide +kernel
theorem dX5_readPerson_64 : decode cX5_readPerson 64 = .ok (.putfield 25, 3) := by decide +kernel
theorem dX5_readPerson_67 : decode cX5_readPerson 67 = .ok (.aload_n 0, 1) := by decide +kernel
theorem dX5_readPerson_68 : decode cX5_readPerson 68 = .ok (.getfield 25, 3) := by decide +kernel
theorem dX5_readPerson_71 : decode cX5_readPerson 71 = .ok (.iconst (-1), 1) := by decide +kernel
theorem dX5_readPerson_72 : decode cX5_readPerson 72 = .ok (.if_icmp .ne 16, 3) := by decide +kernel
theorem dX5_readPerson_75 : decode cX5_readPerson 75 = .ok (.aload_n 1, 1) := by decide +kernel
theorem dX5_readPerson_76 : decode cX5_readPerson 76 = .ok (.iload_n 2, 1) := by decide +kernel
theorem dX5_readPerson_77 : decode cX5_readPerson 77 = .ok (.iload_n 3, 1) := by decide +kernel
theorem dX5_readPerson_78 : decode cX5_readPerson 78 = .ok (.iload 4, 2) := by decide +kernel
theorem dX5_readPerson_80 : decode cX5_readPerson 80 = .ok (.iload 5, 2) := by decide +kernel
theorem dX5_readPerson_82 : decode cX5_readPerson 82 = .ok (.iload 6, 2) := by decide +kernel
theorem dX5_readPerson_84 : decode cX5_readPerson 84 = .ok (.invokevirtual 85, 3) := by decide +kernel
theorem dX5_readPerson_87 : decode cX5_readPerson 87 = .ok (.pop, 1) := by decide +kernel
theorem dX5_readPerson_88 : decode cX5_readPerson 88 = .ok (.return_, 1) := by decide +kernel
theorem dX5_readWord_0 : decode cX5_readWord 0 = .ok (.iconst 0, 1) := by decide +kernel
theorem dX5_readWord_1 : decode cX5_readWord 1 = .ok (.istore_n 1, 1) := by decide +kernel
theorem dX5_readWord_2 : decode cX5_readWord 2 = .ok (.iconst 0, 1) := by decide +kernel
theorem dX5_readWord_3 : decode cX5_readWord 3 = .ok (.istore_n 2, 1) := by decide +kernel
theorem dX5_readWord_4 : decode cX5_readWord 4 = .ok (.iload_n 2, 1) := by decide +kernel
theorem dX5_readWord_5 : decode cX5_readWord 5 = .ok (.iconst 5, 1) := by decide +kernel
theorem dX5_readWord_6 : decode cX5_readWord 6 = .ok (.if_icmp .ge 50, 3) := by decide +kernel
theorem dX5_readWord_9 : decode cX5_readWord 9 = .ok (.iload_n 2, 1) := by decide +kernel
theorem dX5_readWord_10 : decode cX5_readWord 10 = .ok (.invokestatic 89, 3) := by decide +kernel
theorem dX5_readWord_13 : decode cX5_readWord 13 = .ok (.astore_n 3, 1) := by decide +kernel
theorem dX5_readWord_14 : decode cX5_readWord 14 = .ok (.aload_n 0, 1) := by decide +kernel
theorem dX5_readWord_15 : decode cX5_readWord 15 = .ok (.aload_n 3, 1) := by decide +kernel
theorem dX5_readWord_16 : decode cX5_readWord 16 = .ok (.invokevirtual 93, 3) := by decide +kernel
theorem dX5_readWord_19 : decode cX5_readWord 19 = .ok (.istore 4, 2) := by decide +kernel
theorem dX5_readWord_21 : decode cX5_readWord 21 = .ok (.iload 4, 2) := by decide +kernel
theorem dX5_readWord_23 : decode cX5_readWord 23 = .ok (.aload_n 3, 1) := by decide +kernel
theorem dX5_readWord_24 : decode cX5_readWord 24 = .ok (.invokevirtual 97, 3) := by decide +kernel
theorem dX5_readWord_27 : decode cX5_readWord 27 = .ok (.if_icmp .ne 16, 3) := by decide +kernel
theorem dX5_readWord_30 : decode cX5_readWord 30 = .ok (.aload_n 0, 1) := by decide +kernel
theorem dX5_readWord_31 : decode cX5_readWord 31 = .ok (.dup, 1) := by decide +kernel
theorem dX5_readWord_32 : decode cX5_readWord 32 = .ok (.getfield 19, 3) := by decide +kernel
theorem dX5_readWord_35 : decode cX5_readWord 35 = .ok (.iload 4, 2) := by decide +kernel
theorem dX5_readWord_37 : decode cX5_readWord 37 = .ok (.iadd, 1) := by decide +kernel
theorem dX5_readWord_38 : decode cX5_readWord 38 = .ok (.putfield 19, 3) := by decide +kernel
theorem dX5_readWord_41 : decode cX5_readWord 41 = .ok (.iload_n 2, 1) := by decide +kernel
theorem dX5_readWord_42 : decode cX5_readWord 42 = .ok (.ireturn, 1) := by decide +kernel
theorem dX5_readWord_43 : decode cX5_readWord 43 = .ok (.iload_n 1, 1) := by decide +kernel
theorem dX5_readWord_44 : decode cX5_readWord 44 = .ok (.iload 4, 2) := by decide +kernel
theorem dX5_readWord_46 : decode cX5_readWord 46 = .ok (.invokestatic 101, 3) := by decide +kernel
theorem dX5_readWord_49 : decode cX5_readWord 49 = .ok (.istore_n 1, 1) := by decide +kernel
theorem dX5_readWord_50 : decode cX5_readWord 50 = .ok (.iinc 2 1, 3) := by decide +kernel
theorem dX5_readWord_53 : decode cX5_readWord 53 = .ok (.goto (-49), 3) := by decide +kernel
theorem dX5_readWord_56 : decode cX5_readWord 56 = .ok (.aload_n 0, 1) := by decide +kernel
theorem dX5_readWord_57 : decode cX5_readWord 57 = .ok (.aload_n 0, 1) := by decide +kernel
theorem dX5_readWord_58 : decode cX5_readWord 58 = .ok (.getfield 19, 3) := by decide +kernel
theorem dX5_readWord_61 : decode cX5_readWord 61 = .ok (.iload_n 1, 1) := by decide +kernel
theorem dX5_readWord_62 : decode cX5_readWord 62 = .ok (.iadd, 1) := by decide +kernel
theorem dX5_readWord_63 : decode cX5_readWord 63 = .ok (.putfield 25, 3) := by decide +kernel
theorem dX5_readWord_66 : decode cX5_readWord 66 = .ok (.iconst (-1), 1) := by decide +kernel
theorem dX5_readWord_67 : decode cX5_readWord 67 = .ok (.ireturn, 1) := by decide +kernel
theorem dX5_lettersOf_0 : decode cX5_lettersOf 0 = .ok (.iload_n 0, 1) := by decide +kernel
theorem dX5_lettersOf_1 : decode cX5_lettersOf 1 = .ok (.tableswitch 43 0 3 #[31, 34, 37, 40], 31) := by decide +kernel
theorem dX5_lettersOf_32 : decode cX5_lettersOf 32 = .ok (.ldc 106, 2) := by decide +kernel
theorem dX5_lettersOf_34 : decode cX5_lettersOf 34 = .ok (.areturn, 1) := by decide +kernel
theorem dX5_lettersOf_35 : decode cX5_lettersOf 35 = .ok (.ldc 108, 2) := by decide +kernel
theorem dX5_lettersOf_37 : decode cX5_lettersOf 37 = .ok (.areturn, 1) := by decide +kernel
theorem dX5_lettersOf_38 : decode cX5_lettersOf 38 = .ok (.ldc 110, 2) := by decide +kernel
theorem dX5_lettersOf_40 : decode cX5_lettersOf 40 = .ok (.areturn, 1) := by decide +kernel
theorem dX5_lettersOf_41 : decode cX5_lettersOf 41 = .ok (.ldc 112, 2) := by decide +kernel
theorem dX5_lettersOf_43 : decode cX5_lettersOf 43 = .ok (.areturn, 1) := by decide +kernel
theorem dX5_lettersOf_44 : decode cX5_lettersOf 44 = .ok (.ldc 113, 2) := by decide +kernel
theorem dX5_lettersOf_46 : decode cX5_lettersOf 46 = .ok (.areturn, 1) := by decide +kernel
theorem dX5_lettersAlike_0 : decode cX5_lettersAlike 0 = .ok (.iconst 0, 1) := by decide +kernel
theorem dX5_lettersAlike_1 : decode cX5_lettersAlike 1 = .ok (.istore_n 2, 1) := by decide +kernel
theorem dX5_lettersAlike_2 : decode cX5_lettersAlike 2 = .ok (.iload_n 2, 1) := by decide +kernel
theorem dX5_lettersAlike_3 : decode cX5_lettersAlike 3 = .ok (.aload_n 1, 1) := by decide +kernel
theorem dX5_lettersAlike_4 : decode cX5_lettersAlike 4 = .ok (.invokevirtual 97, 3) := by decide +kernel
theorem dX5_lettersAlike_7 : decode cX5_lettersAlike 7 = .ok (.if_icmp .ge 29, 3) := by decide +kernel
theorem dX5_lettersAlike_10 : decode cX5_lettersAlike 10 = .ok (.aload_n 0, 1) := by decide +kernel
theorem dX5_lettersAlike_11 : decode cX5_lettersAlike 11 = .ok (.aload_n 0, 1) := by decide +kernel
theorem dX5_lettersAlike_12 : decode cX5_lettersAlike 12 = .ok (.getfield 19, 3) := by decide +kernel
theorem dX5_lettersAlike_15 : decode cX5_lettersAlike 15 = .ok (.iload_n 2, 1) := by decide +kernel
theorem dX5_lettersAlike_16 : decode cX5_lettersAlike 16 = .ok (.iadd, 1) := by decide +kernel
theorem dX5_lettersAlike_17 : decode cX5_lettersAlike 17 = .ok (.aload_n 1, 1) := by decide +kernel
theorem dX5_lettersAlike_18 : decode cX5_lettersAlike 18 = .ok (.iload_n 2, 1) := by decide +kernel
theorem dX5_lettersAlike_19 : decode cX5_lettersAlike 19 = .ok (.invokevirtual 114, 3) := by decide +kernel
theorem dX5_lettersAlike_22 : decode cX5_lettersAlike 22 = .ok (.invokevirtual 118, 3) := by decide +kernel
theorem dX5_lettersAlike_25 : decode cX5_lettersAlike 25 = .ok (.ifCond .ne 5, 3) := by decide +kernel
theorem dX5_lettersAlike_28 : decode cX5_lettersAlike 28 = .ok (.iload_n 2, 1) := by decide +kernel
theorem dX5_lettersAlike_29 : decode cX5_lettersAlike 29 = .ok (.ireturn, 1) := by decide +kernel
theorem dX5_lettersAlike_30 : decode cX5_lettersAlike 30 = .ok (.iinc 2 1, 3) := by decide +kernel
theorem dX5_lettersAlike_33 : decode cX5_lettersAlike 33 = .ok (.goto (-31), 3) := by decide +kernel
theorem dX5_lettersAlike_36 : decode cX5_lettersAlike 36 = .ok (.aload_n 1, 1) := by decide +kernel
theorem dX5_lettersAlike_37 : decode cX5_lettersAlike 37 = .ok (.invokevirtual 97, 3) := by decide +kernel
theorem dX5_lettersAlike_40 : decode cX5_lettersAlike 40 = .ok (.ireturn, 1) := by decide +kernel
theorem dX5_isSign_0 : decode cX5_isSign 0 = .ok (.iload_n 1, 1) := by decide +kernel
theorem dX5_isSign_1 : decode cX5_isSign 1 = .ok (.aload_n 0, 1) := by decide +kernel
theorem dX5_isSign_2 : decode cX5_isSign 2 = .ok (.getfield 15, 3) := by decide +kernel
theorem dX5_isSign_5 : decode cX5_isSign 5 = .ok (.if_icmp .ge 17, 3) := by decide +kernel
theorem dX5_isSign_8 : decode cX5_isSign 8 = .ok (.aload_n 0, 1) := by decide +kernel
theorem dX5_isSign_9 : decode cX5_isSign 9 = .ok (.getfield 9, 3) := by decide +kernel
theorem dX5_isSign_12 : decode cX5_isSign 12 = .ok (.iload_n 1, 1) := by decide +kernel
theorem dX5_isSign_13 : decode cX5_isSign 13 = .ok (.iaload, 1) := by decide +kernel
theorem dX5_isSign_14 : decode cX5_isSign 14 = .ok (.iload_n 2, 1) := by decide +kernel
theorem dX5_isSign_15 : decode cX5_isSign 15 = .ok (.if_icmp .ne 7, 3) := by decide +kernel
theorem dX5_isSign_18 : decode cX5_isSign 18 = .ok (.iconst 1, 1) := by decide +kernel
theorem dX5_isSign_19 : decode cX5_isSign 19 = .ok (.goto 4, 3) := by decide +kernel
theorem dX5_isSign_22 : decode cX5_isSign 22 = .ok (.iconst 0, 1) := by decide +kernel
theorem dX5_isSign_23 : decode cX5_isSign 23 = .ok (.ireturn, 1) := by decide +kernel
theorem dX5_readSign_0 : decode cX5_readSign 0 = .ok (.aload_n 0, 1) := by decide +kernel
theorem dX5_readSign_1 : decode cX5_readSign 1 = .ok (.aload_n 0, 1) := by decide +kernel
theorem dX5_readSign_2 : decode cX5_readSign 2 = .ok (.getfield 19, 3) := by decide +kernel
theorem dX5_readSign_5 : decode cX5_readSign 5 = .ok (.iload_n 1, 1) := by decide +kernel
theorem dX5_readSign_6 : decode cX5_readSign 6 = .ok (.invokevirtual 118, 3) := by decide +kernel
theorem dX5_readSign_9 : decode cX5_readSign 9 = .ok (.ifCond .eq 16, 3) := by decide +kernel
theorem dX5_readSign_12 : decode cX5_readSign 12 = .ok (.aload_n 0, 1) := by decide +kernel
theorem dX5_readSign_13 : decode cX5_readSign 13 = .ok (.dup, 1) := by decide +kernel
theorem dX5_readSign_14 : decode cX5_readSign 14 = .ok (.getfield 19, 3) := by decide +kernel
theorem dX5_readSign_17 : decode cX5_readSign 17 = .ok (.iconst 1, 1) := by decide +kernel
theorem dX5_readSign_18 : decode cX5_readSign 18 = .ok (.iadd, 1) := by decide +kernel
theorem dX5_readSign_19 : decode cX5_readSign 19 = .ok (.putfield 19, 3) := by decide +kernel
theorem dX5_readSign_22 : decode cX5_readSign 22 = .ok (.goto 11, 3) := by decide +kernel
theorem dX5_readSign_25 : decode cX5_readSign 25 = .ok (.aload_n 0, 1) := by decide +kernel
theorem dX5_readSign_26 : decode cX5_readSign 26 = .ok (.aload_n 0, 1) := by decide +kernel
theorem dX5_readSign_27 : decode cX5_readSign 27 = .ok (.getfield 19, 3) := by decide +kernel
theorem dX5_readSign_30 : decode cX5_readSign 30 = .ok (.putfield 25, 3) := by decide +kernel
theorem dX5_readSign_33 : decode cX5_readSign 33 = .ok (.return_, 1) := by decide +kernel
theorem dX5_readNumber_0 : decode cX5_readNumber 0 = .ok (.aload_n 0, 1) := by decide +kernel
theorem dX5_readNumber_1 : decode cX5_readNumber 1 = .ok (.getfield 25, 3) := by decide +kernel
theorem dX5_readNumber_4 : decode cX5_readNumber 4 = .ok (.iconst (-1), 1) := by decide +kernel
theorem dX5_readNumber_5 : decode cX5_readNumber 5 = .ok (.if_icmp .ne 9, 3) := by decide +kernel
theorem dX5_readNumber_8 : decode cX5_readNumber 8 = .ok (.aload_n 0, 1) := by decide +kernel
theorem dX5_readNumber_9 : decode cX5_readNumber 9 = .ok (.bipush 32, 2) := by decide +kernel
theorem dX5_readNumber_11 : decode cX5_readNumber 11 = .ok (.invokevirtual 39, 3) := by decide +kernel
theorem dX5_readNumber_14 : decode cX5_readNumber 14 = .ok (.aload_n 0, 1) := by decide +kernel
theorem dX5_readNumber_15 : decode cX5_readNumber 15 = .ok (.getfield 25, 3) := by decide +kernel
theorem dX5_readNumber_18 : decode cX5_readNumber 18 = .ok (.iconst (-1), 1) := by decide +kernel
theorem dX5_readNumber_19 : decode cX5_readNumber 19 = .ok (.if_icmp .eq 5, 3) := by decide +kernel
theorem dX5_readNumber_22 : decode cX5_readNumber 22 = .ok (.iconst 0, 1) := by decide +kernel
theorem dX5_readNumber_23 : decode cX5_readNumber 23 = .ok (.ireturn, 1) := by decide +kernel
theorem dX5_readNumber_24 : decode cX5_readNumber 24 = .ok (.aload_n 0, 1) := by decide +kernel
theorem dX5_readNumber_25 : decode cX5_readNumber 25 = .ok (.aload_n 0, 1) := by decide +kernel
theorem dX5_readNumber_26 : decode cX5_readNumber 26 = .ok (.getfield 19, 3) := by decide +kernel
theorem dX5_readNumber_29 : decode cX5_readNumber 29 = .ok (.putfield 22, 3) := by decide +kernel
theorem dX5_readNumber_32 : decode cX5_readNumber 32 = .ok (.iconst 0, 1) := by decide +kernel
theorem dX5_readNumber_33 : decode cX5_readNumber 33 = .ok (.istore_n 3, 1) := by decide +kernel
theorem dX5_readNumber_34 : decode cX5_readNumber 34 = .ok (.iconst 0, 1) := by decide +kernel
theorem dX5_readNumber_35 : decode cX5_readNumber 35 = .ok (.istore 4, 2) := by decide +kernel
theorem dX5_readNumber_37 : decode cX5_readNumber 37 = .ok (.iload 4, 2) := by decide +kernel
theorem dX5_readNumber_39 : decode cX5_readNumber 39 = .ok (.iconst 2, 1) := by decide +kernel
theorem dX5_readNumber_40 : decode cX5_readNumber 40 = .ok (.if_icmp .ge 44, 3) := by decide +kernel
theorem dX5_readNumber_43 : decode cX5_readNumber 43 = .ok (.aload_n 0, 1) := by decide +kernel
theorem dX5_readNumber_44 : decode cX5_readNumber 44 = .ok (.invokevirtual 122, 3) := by decide +kernel
theorem dX5_readNumber_47 : decode cX5_readNumber 47 = .ok (.ifCond .eq 37, 3) := by decide +kernel
theorem dX5_readNumber_50 : decode cX5_readNumber 50 = .ok (.bipush 10, 2) := by decide +kernel
theorem dX5_readNumber_52 : decode cX5_readNumber 52 = .ok (.iload_n 3, 1) := by decide +kernel
theorem dX5_readNumber_53 : decode cX5_readNumber 53 = .ok (.imul, 1) := by decide +kernel
theorem dX5_readNumber_54 : decode cX5_readNumber 54 = .ok (.aload_n 0, 1) := by decide +kernel
theorem dX5_readNumber_55 : decode cX5_readNumber 55 = .ok (.getfield 9, 3) := by decide +kernel
theorem dX5_readNumber_58 : decode cX5_readNumber 58 = .ok (.aload_n 0, 1) := by decide +kernel
theorem dX5_readNumber_59 : decode cX5_readNumber 59 = .ok (.getfield 19, 3) := by decide +kernel
theorem dX5_readNumber_62 : decode cX5_readNumber 62 = .ok (.iaload, 1) := by decide +kernel
theorem dX5_readNumber_63 : decode cX5_readNumber 63 = .ok (.iadd, 1) := by decide +kernel
theorem dX5_readNumber_64 : decode cX5_readNumber 64 = .ok (.bipush 48, 2) := by decide +kernel
theorem dX5_readNumber_66 : decode cX5_readNumber 66 = .ok (.isub, 1) := by decide +kernel
theorem dX5_readNumber_67 : decode cX5_readNumber 67 = .ok (.istore_n 3, 1) := by decide +kernel
theorem dX5_readNumber_68 : decode cX5_readNumber 68 = .ok (.aload_n 0, 1) := by decide +kernel
theorem dX5_readNumber_69 : decode cX5_readNumber 69 = .ok (.dup, 1) := by decide +kernel
theorem dX5_readNumber_70 : decode cX5_readNumber 70 = .ok (.getfield 19, 3) := by decide +kernel
theorem dX5_readNumber_73 : decode cX5_readNumber 73 = .ok (.iconst 1, 1) := by decide +kernel
theorem dX5_readNumber_74 : decode cX5_readNumber 74 = .ok (.iadd, 1) := by decide +kernel
theorem dX5_readNumber_75 : decode cX5_readNumber 75 = .ok (.putfield 19, 3) := by decide +kernel
theorem dX5_readNumber_78 : decode cX5_readNumber 78 = .ok (.iinc 4 1, 3) := by decide +kernel
theorem dX5_readNumber_81 : decode cX5_readNumber 81 = .ok (.goto (-44), 3) := by decide +kernel
theorem dX5_readNumber_84 : decode cX5_readNumber 84 = .ok (.aload_n 0, 1) := by decide +kernel
theorem dX5_readNumber_85 : decode cX5_readNumber 85 = .ok (.getfield 19, 3) := by decide +kernel
theorem dX5_readNumber_88 : decode cX5_readNumber 88 = .ok (.aload_n 0, 1) := by decide +kernel
theorem dX5_readNumber_89 : decode cX5_readNumber 89 = .ok (.getfield 22, 3) := by decide +kernel
theorem dX5_readNumber_92 : decode cX5_readNumber 92 = .ok (.if_icmp .eq 13, 3) := by decide +kernel
theorem dX5_readNumber_95 : decode cX5_readNumber 95 = .ok (.iload_n 3, 1) := by decide +kernel
theorem dX5_readNumber_96 : decode cX5_readNumber 96 = .ok (.iload_n 1, 1) := by decide +kernel
theorem dX5_readNumber_97 : decode cX5_readNumber 97 = .ok (.if_icmp .lt 8, 3) := by decide +kernel
theorem dX5_readNumber_100 : decode cX5_readNumber 100 = .ok (.iload_n 3, 1) := by decide +kernel
theorem dX5_readNumber_101 : decode cX5_readNumber 101 = .ok (.iload_n 2, 1) := by decide +kernel
theorem dX5_readNumber_102 : decode cX5_readNumber 102 = .ok (.if_icmp .le 11, 3) := by decide +kernel
theorem dX5_readNumber_105 : decode cX5_readNumber 105 = .ok (.aload_n 0, 1) := by decide +kernel
theorem dX5_readNumber_106 : decode cX5_readNumber 106 = .ok (.aload_n 0, 1) := by decide +kernel
theorem dX5_readNumber_107 : decode cX5_readNumber 107 = .ok (.getfield 22, 3) := by decide +kernel
theorem dX5_readNumber_110 : decode cX5_readNumber 110 = .ok (.putfield 25, 3) := by decide +kernel
theorem dX5_readNumber_113 : decode cX5_readNumber 113 = .ok (.iload_n 3, 1) := by decide +kernel
theorem dX5_readNumber_114 : decode cX5_readNumber 114 = .ok (.ireturn, 1) := by decide +kernel
theorem dX5_isDigitNext_0 : decode cX5_isDigitNext 0 = .ok (.aload_n 0, 1) := by decide +kernel
theorem dX5_isDigitNext_1 : decode cX5_isDigitNext 1 = .ok (.getfield 19, 3) := by decide +kernel
theorem dX5_isDigitNext_4 : decode cX5_isDigitNext 4 = .ok (.aload_n 0, 1) := by decide +kernel
theorem dX5_isDigitNext_5 : decode cX5_isDigitNext 5 = .ok (.getfield 15, 3) := by decide +kernel
theorem dX5_isDigitNext_8 : decode cX5_isDigitNext 8 = .ok (.if_icmp .ge 35, 3) := by decide +kernel
theorem dX5_isDigitNext_11 : decode cX5_isDigitNext 11 = .ok (.aload_n 0, 1) := by decide +kernel
theorem dX5_isDigitNext_12 : decode cX5_isDigitNext 12 = .ok (.getfield 9, 3) := by decide +kernel
theorem dX5_isDigitNext_15 : decode cX5_isDigitNext 15 = .ok (.aload_n 0, 1) := by decide +kernel
theorem dX5_isDigitNext_16 : decode cX5_isDigitNext 16 = .ok (.getfield 19, 3) := by decide +kernel
theorem dX5_isDigitNext_19 : decode cX5_isDigitNext 19 = .ok (.iaload, 1) := by decide +kernel
theorem dX5_isDigitNext_20 : decode cX5_isDigitNext 20 = .ok (.bipush 48, 2) := by decide +kernel
theorem dX5_isDigitNext_22 : decode cX5_isDigitNext 22 = .ok (.if_icmp .lt 21, 3) := by decide +kernel
theorem dX5_isDigitNext_25 : decode cX5_isDigitNext 25 = .ok (.aload_n 0, 1) := by decide +kernel
theorem dX5_isDigitNext_26 : decode cX5_isDigitNext 26 = .ok (.getfield 9, 3) := by decide +kernel
theorem dX5_isDigitNext_29 : decode cX5_isDigitNext 29 = .ok (.aload_n 0, 1) := by decide +kernel
theorem dX5_isDigitNext_30 : decode cX5_isDigitNext 30 = .ok (.getfield 19, 3) := by decide +kernel
theorem dX5_isDigitNext_33 : decode cX5_isDigitNext 33 = .ok (.iaload, 1) := by decide +kernel
theorem dX5_isDigitNext_34 : decode cX5_isDigitNext 34 = .ok (.bipush 57, 2) := by decide +kernel
theorem dX5_isDigitNext_36 : decode cX5_isDigitNext 36 = .ok (.if_icmp .gt 7, 3) := by decide +kernel
theorem dX5_isDigitNext_39 : decode cX5_isDigitNext 39 = .ok (.iconst 1, 1) := by decide +kernel
theorem dX5_isDigitNext_40 : decode cX5_isDigitNext 40 = .ok (.goto 4, 3) := by decide +kernel
theorem dX5_isDigitNext_43 : decode cX5_isDigitNext 43 = .ok (.iconst 0, 1) := by decide +kernel
theorem dX5_isDigitNext_44 : decode cX5_isDigitNext 44 = .ok (.ireturn, 1) := by decide +kernel
theorem dX6_init_0 : decode cX6_init 0 = .ok (.aload_n 0, 1) := by decide +kernel
theorem dX6_init_1 : decode cX6_init 1 = .ok (.invokespecial 3, 3) := by decide +kernel
theorem dX6_init_4 : decode cX6_init 4 = .ok (.aload_n 0, 1) := by decide +kernel
theorem dX6_init_5 : decode cX6_init 5 = .ok (.sipush 160, 3) := by decide +kernel
theorem dX6_init_8 : decode cX6_init 8 = .ok (.newarray .long, 2) := by decide +kernel
theorem dX6_init_10 : decode cX6_init 10 = .ok (.putfield 9, 3) := by decide +kernel
theorem dX6_init_13 : decode cX6_init 13 = .ok (.aload_n 0, 1) := by decide +kernel
theorem dX6_init_14 : decode cX6_init 14 = .ok (.iconst (-1), 1) := by decide +kernel
theorem dX6_init_15 : decode cX6_init 15 = .ok (.putfield 15, 3) := by decide +kernel
theorem dX6_init_18 : decode cX6_init 18 = .ok (.aload_n 0, 1) := by decide +kernel
theorem dX6_init_19 : decode cX6_init 19 = .ok (.iconst 0, 1) := by decide +kernel
theorem dX6_init_20 : decode cX6_init 20 = .ok (.putfield 19, 3) := by decide +kernel
theorem dX6_init_23 : decode cX6_init 23 = .ok (.return_, 1) := by decide +kernel
theorem dX6_hasRow_0 : decode cX6_hasRow 0 = .ok (.aload_n 0, 1) := by decide +kernel
theorem dX6_hasRow_1 : decode cX6_hasRow 1 = .ok (.getfield 15, 3) := by decide +kernel
theorem dX6_hasRow_4 : decode cX6_hasRow 4 = .ok (.bipush 100, 2) := by decide +kernel
theorem dX6_hasRow_6 : decode cX6_hasRow 6 = .ok (.if_icmp .lt 7, 3) := by decide +kernel
theorem dX6_hasRow_9 : decode cX6_hasRow 9 = .ok (.iconst 1, 1) := by decide +kernel
theorem dX6_hasRow_10 : decode cX6_hasRow 10 = .ok (.goto 4, 3) := by decide +kernel
theorem dX6_hasRow_13 : decode cX6_hasRow 13 = .ok (.iconst 0, 1) := by decide +kernel
theorem dX6_hasRow_14 : decode cX6_hasRow 14 = .ok (.ireturn, 1) := by decide +kernel
theorem dX6_hasPerson_0 : decode cX6_hasPerson 0 = .ok (.aload_n 0, 1) := by decide +kernel
theorem dX6_hasPerson_1 : decode cX6_hasPerson 1 = .ok (.getfield 15, 3) := by decide +kernel
theorem dX6_hasPerson_4 : decode cX6_hasPerson 4 = .ok (.ifCond .lt 16, 3) := by decide +kernel
theorem dX6_hasPerson_7 : decode cX6_hasPerson 7 = .ok (.aload_n 0, 1) := by decide +kernel
theorem dX6_hasPerson_8 : decode cX6_hasPerson 8 = .ok (.getfield 15, 3) := by decide +kernel
theorem dX6_hasPerson_11 : decode cX6_hasPerson 11 = .ok (.bipush 100, 2) := by decide +kernel
theorem dX6_hasPerson_13 : decode cX6_hasPerson 13 = .ok (.if_icmp .ge 7, 3) := by decide +kernel
theorem dX6_hasPerson_16 : decode cX6_hasPerson 16 = .ok (.iconst 1, 1) := by decide +kernel
theorem dX6_hasPerson_17 : decode cX6_hasPerson 17 = .ok (.goto 4, 3) := by decide +kernel
theorem dX6_hasPerson_20 : decode cX6_hasPerson 20 = .ok (.iconst 0, 1) := by decide +kernel
theorem dX6_hasPerson_21 : decode cX6_hasPerson 21 = .ok (.ireturn, 1) := by decide +kernel
theorem dX6_putRow_0 : decode cX6_putRow 0 = .ok (.aload_n 0, 1) := by decide +kernel
theorem dX6_putRow_1 : decode cX6_putRow 1 = .ok (.bipush 100, 2) := by decide +kernel
theorem dX6_putRow_3 : decode cX6_putRow 3 = .ok (.iload_n 1, 1) := by decide +kernel
theorem dX6_putRow_4 : decode cX6_putRow 4 = .ok (.iadd, 1) := by decide +kernel
theorem dX6_putRow_5 : decode cX6_putRow 5 = .ok (.putfield 15, 3) := by decide +kernel
theorem dX6_putRow_8 : decode cX6_putRow 8 = .ok (.aload_n 0, 1) := by decide +kernel
theorem dX6_putRow_9 : decode cX6_putRow 9 = .ok (.iload_n 2, 1) := by decide +kernel
theorem dX6_putRow_10 : decode cX6_putRow 10 = .ok (.putfield 19, 3) := by decide +kernel
theorem dX6_putRow_13 : decode cX6_putRow 13 = .ok (.aload_n 0, 1) := by decide +kernel
theorem dX6_putRow_14 : decode cX6_putRow 14 = .ok (.getfield 9, 3) := by decide +kernel
theorem dX6_putRow_17 : decode cX6_putRow 17 = .ok (.lconst 0, 1) := by decide +kernel
theorem dX6_putRow_18 : decode cX6_putRow 18 = .ok (.invokestatic 22, 3) := by decide +kernel
theorem dX6_putRow_21 : decode cX6_putRow 21 = .ok (.return_, 1) := by decide +kernel
theorem dX6_putPerson_0 : decode cX6_putPerson 0 = .ok (.aload_n 0, 1) := by decide +kernel
theorem dX6_putPerson_1 : decode cX6_putPerson 1 = .ok (.iload_n 1, 1) := by decide +kernel
theorem dX6_putPerson_2 : decode cX6_putPerson 2 = .ok (.putfield 15, 3) := by decide +kernel
theorem dX6_putPerson_5 : decode cX6_putPerson 5 = .ok (.aload_n 0, 1) := by decide +kernel
theorem dX6_putPerson_6 : decode cX6_putPerson 6 = .ok (.iconst 0, 1) := by decide +kernel
theorem dX6_putPerson_7 : decode cX6_putPerson 7 = .ok (.putfield 19, 3) := by decide +kernel
theorem dX6_putPerson_10 : decode cX6_putPerson 10 = .ok (.return_, 1) := by decide +kernel
theorem dX6_hasElement_0 : decode cX6_hasElement 0 = .ok (.aload_n 0, 1) := by decide +kernel
theorem dX6_hasElement_1 : decode cX6_hasElement 1 = .ok (.invokevirtual 28, 3) := by decide +kernel
theorem dX6_hasElement_4 : decode cX6_hasElement 4 = .ok (.ifCond .eq 19, 3) := by decide +kernel
theorem dX6_hasElement_7 : decode cX6_hasElement 7 = .ok (.iload_n 1, 1) := by decide +kernel
theorem dX6_hasElement_8 : decode cX6_hasElement 8 = .ok (.ifCond .lt 15, 3) := by decide +kernel
theorem dX6_hasElement_11 : decode cX6_hasElement 11 = .ok (.iload_n 1, 1) := by decide +kernel
theorem dX6_hasElement_12 : decode cX6_hasElement 12 = .ok (.aload_n 0, 1) := by decide +kernel
theorem dX6_hasElement_13 : decode cX6_hasElement 13 = .ok (.getfield 19, 3) := by decide +kernel
theorem dX6_hasElement_16 : decode cX6_hasElement 16 = .ok (.if_icmp .ge 7, 3) := by decide +kernel
theorem dX6_hasElement_19 : decode cX6_hasElement 19 = .ok (.iconst 1, 1) := by decide +kernel
theorem dX6_hasElement_20 : decode cX6_hasElement 20 = .ok (.goto 4, 3) := by decide +kernel
theorem dX6_hasElement_23 : decode cX6_hasElement 23 = .ok (.iconst 0, 1) := by decide +kernel
theorem dX6_hasElement_24 : decode cX6_hasElement 24 = .ok (.ireturn, 1) := by decide +kernel
theorem dX6_hasStretch_0 : decode cX6_hasStretch 0 = .ok (.iload_n 1, 1) := by decide +kernel
theorem dX6_hasStretch_1 : decode cX6_hasStretch 1 = .ok (.ifCond .lt 21, 3) := by decide +kernel
theorem dX6_hasStretch_4 : decode cX6_hasStretch 4 = .ok (.iload_n 2, 1) := by decide +kernel
theorem dX6_hasStretch_5 : decode cX6_hasStretch 5 = .ok (.ifCond .lt 17, 3) := by decide +kernel
theorem dX6_hasStretch_8 : decode cX6_hasStretch 8 = .ok (.iload_n 1, 1) := by decide +kernel
theorem dX6_hasStretch_9 : decode cX6_hasStretch 9 = .ok (.aload_n 0, 1) := by decide +kernel
theorem dX6_hasStretch_10 : decode cX6_hasStretch 10 = .ok (.getfield 19, 3) := by decide +kernel
theorem dX6_hasStretch_13 : decode cX6_hasStretch 13 = .ok (.iload_n 2, 1) := by decide +kernel
theorem dX6_hasStretch_14 : decode cX6_hasStretch 14 = .ok (.isub, 1) := by decide +kernel
theorem dX6_hasStretch_15 : decode cX6_hasStretch 15 = .ok (.if_icmp .gt 7, 3) := by decide +kernel
theorem dX6_hasStretch_18 : decode cX6_hasStretch 18 = .ok (.iconst 1, 1) := by decide +kernel
theorem dX6_hasStretch_19 : decode cX6_hasStretch 19 = .ok (.goto 4, 3) := by decide +kernel
theorem dX6_hasStretch_22 : decode cX6_hasStretch 22 = .ok (.iconst 0, 1) := by decide +kernel
theorem dX6_hasStretch_23 : decode cX6_hasStretch 23 = .ok (.ireturn, 1) := by decide +kernel
theorem dX6_putElement_0 : decode cX6_putElement 0 = .ok (.aload_n 0, 1) := by decide +kernel
theorem dX6_putElement_1 : decode cX6_putElement 1 = .ok (.getfield 15, 3) := by decide +kernel
theorem dX6_putElement_4 : decode cX6_putElement 4 = .ok (.bipush 100, 2) := by decide +kernel
theorem dX6_putElement_6 : decode cX6_putElement 6 = .ok (.isub, 1) := by decide +kernel
theorem dX6_putElement_7 : decode cX6_putElement 7 = .ok (.tableswitch 63 0 2 #[25, 38, 51], 25) := by decide +kernel
theorem dX6_putElement_32 : decode cX6_putElement 32 = .ok (.aload_n 0, 1) := by decide +kernel
theorem dX6_putElement_33 : decode cX6_putElement 33 = .ok (.getfield 9, 3) := by decide +kernel
theorem dX6_putElement_36 : decode cX6_putElement 36 = .ok (.iload_n 1, 1) := by decide +kernel
theorem dX6_putElement_37 : decode cX6_putElement 37 = .ok (.lload_n 2, 1) := by decide +kernel
theorem dX6_putElement_38 : decode cX6_putElement 38 = .ok (.l2i, 1) := by decide +kernel
theorem dX6_putElement_39 : decode cX6_putElement 39 = .ok (.i2b, 1) := by decide +kernel
theorem dX6_putElement_40 : decode cX6_putElement 40 = .ok (.i2l, 1) := by decide +kernel
theorem dX6_putElement_41 : decode cX6_putElement 41 = .ok (.lastore, 1) := by decide +kernel
theorem dX6_putElement_42 : decode cX6_putElement 42 = .ok (.goto 35, 3) := by decide +kernel
theorem dX6_putElement_45 : decode cX6_putElement 45 = .ok (.aload_n 0, 1) := by decide +kernel
theorem dX6_putElement_46 : decode cX6_putElement 46 = .ok (.getfield 9, 3) := by decide +kernel
theorem dX6_putElement_49 : decode cX6_putElement 49 = .ok (.iload_n 1, 1) := by decide +kernel
theorem dX6_putElement_50 : decode cX6_putElement 50 = .ok (.lload_n 2, 1) := by decide +kernel
theorem dX6_putElement_51 : decode cX6_putElement 51 = .ok (.l2i, 1) := by decide +kernel
theorem dX6_putElement_52 : decode cX6_putElement 52 = .ok (.i2s, 1) := by decide +kernel
theorem dX6_putElement_53 : decode cX6_putElement 53 = .ok (.i2l, 1) := by decide +kernel
theorem dX6_putElement_54 : decode cX6_putElement 54 = .ok (.lastore, 1) := by decide +kernel
theorem dX6_putElement_55 : decode cX6_putElement 55 = .ok (.goto 22, 3) := by decide +kernel
theorem dX6_putElement_58 : decode cX6_putElement 58 = .ok (.aload_n 0, 1) := by decide +kernel
theorem dX6_putElement_59 : decode cX6_putElement 59 = .ok (.getfield 9, 3) := by decide +kernel
theorem dX6_putElement_62 : decode cX6_putElement 62 = .ok (.iload_n 1, 1) := by decide +kernel
theorem dX6_putElement_63 : decode cX6_putElement 63 = .ok (.lload_n 2, 1) := by decide +kernel
theorem dX6_putElement_64 : decode cX6_putElement 64 = .ok (.l2i, 1) := by decide +kernel
theorem dX6_putElement_65 : decode cX6_putElement 65 = .ok (.i2l, 1) := by decide +kernel
theorem dX6_putElement_66 : decode cX6_putElement 66 = .ok (.lastore, 1) := by decide +kernel
theorem dX6_putElement_67 : decode cX6_putElement 67 = .ok (.goto 10, 3) := by decide +kernel
theorem dX6_putElement_70 : decode cX6_putElement 70 = .ok (.aload_n 0, 1) := by decide +kernel
theorem dX6_putElement_71 : decode cX6_putElement 71 = .ok (.getfield 9, 3) := by decide +kernel
theorem dX6_putElement_74 : decode cX6_putElement 74 = .ok (.iload_n 1, 1) := by decide +kernel
theorem dX6_putElement_75 : decode cX6_putElement 75 = .ok (.lload_n 2, 1) := by decide +kernel
theorem dX6_putElement_76 : decode cX6_putElement 76 = .ok (.lastore, 1) := by decide +kernel
theorem dX6_putElement_77 : decode cX6_putElement 77 = .ok (.return_, 1) := by decide +kernel
theorem dX6_elementAt_0 : decode cX6_elementAt 0 = .ok (.aload_n 0, 1) := by decide +kernel
theorem dX6_elementAt_1 : decode cX6_elementAt 1 = .ok (.iload_n 1, 1) := by decide +kernel
theorem dX6_elementAt_2 : decode cX6_elementAt 2 = .ok (.invokevirtual 32, 3) := by decide +kernel
theorem dX6_elementAt_5 : decode cX6_elementAt 5 = .ok (.ifCond .eq 12, 3) := by decide +kernel
theorem dX6_elementAt_8 : decode cX6_elementAt 8 = .ok (.aload_n 0, 1) := by decide +kernel
theorem dX6_elementAt_9 : decode cX6_elementAt 9 = .ok (.getfield 9, 3) := by decide +kernel
theorem dX6_elementAt_12 : decode cX6_elementAt 12 = .ok (.iload_n 1, 1) := by decide +kernel
theorem dX6_elementAt_13 : decode cX6_elementAt 13 = .ok (.laload, 1) := by decide +kernel
theorem dX6_elementAt_14 : decode cX6_elementAt 14 = .ok (.goto 4, 3) := by decide +kernel
theorem dX6_elementAt_17 : decode cX6_elementAt 17 = .ok (.lconst 0, 1) := by decide +kernel
theorem dX6_elementAt_18 : decode cX6_elementAt 18 = .ok (.lreturn, 1) := by decide +kernel
theorem dX6_intAt_0 : decode cX6_intAt 0 = .ok (.aload_n 0, 1) := by decide +kernel
theorem dX6_intAt_1 : decode cX6_intAt 1 = .ok (.iload_n 1, 1) := by decide +kernel
theorem dX6_intAt_2 : decode cX6_intAt 2 = .ok (.invokevirtual 36, 3) := by decide +kernel
theorem dX6_intAt_5 : decode cX6_intAt 5 = .ok (.l2i, 1) := by decide +kernel
theorem dX6_intAt_6 : decode cX6_intAt 6 = .ok (.ireturn, 1) := by decide +kernel
theorem dX7_init_0 : decode cX7_init 0 = .ok (.aload_n 0, 1) := by decide +kernel
theorem dX7_init_1 : decode cX7_init 1 = .ok (.invokespecial 3, 3) := by decide +kernel
theorem dX7_init_4 : decode cX7_init 4 = .ok (.aload_n 0, 1) := by decide +kernel
theorem dX7_init_5 : decode cX7_init 5 = .ok (.bipush 49, 2) := by decide +kernel
theorem dX7_init_7 : decode cX7_init 7 = .ok (.newarray .int, 2) := by decide +kernel
theorem dX7_init_9 : decode cX7_init 9 = .ok (.putfield 9, 3) := by decide +kernel
theorem dX7_init_12 : decode cX7_init 12 = .ok (.aload_n 0, 1) := by decide +kernel
theorem dX7_init_13 : decode cX7_init 13 = .ok (.bipush 49, 2) := by decide +kernel
theorem dX7_init_15 : decode cX7_init 15 = .ok (.newarray .int, 2) := by decide +kernel
theorem dX7_init_17 : decode cX7_init 17 = .ok (.putfield 15, 3) := by decide +kernel
theorem dX7_init_20 : decode cX7_init 20 = .ok (.aload_n 0, 1) := by decide +kernel
theorem dX7_init_21 : decode cX7_init 21 = .ok (.bipush 49, 2) := by decide +kernel
theorem dX7_init_23 : decode cX7_init 23 = .ok (.newarray .int, 2) := by decide +kernel
theorem dX7_init_25 : decode cX7_init 25 = .ok (.putfield 18, 3) := by decide +kernel
theorem dX7_init_28 : decode cX7_init 28 = .ok (.aload_n 0, 1) := by decide +kernel
theorem dX7_init_29 : decode cX7_init 29 = .ok (.bipush 49, 2) := by decide +kernel
theorem dX7_init_31 : decode cX7_init 31 = .ok (.newarray .int, 2) := by decide +kernel
theorem dX7_init_33 : decode cX7_init 33 = .ok (.putfield 21, 3) := by decide +kernel
theorem dX7_init_36 : decode cX7_init 36 = .ok (.aload_n 0, 1) := by decide +kernel
theorem dX7_init_37 : decode cX7_init 37 = .ok (.bipush 49, 2) := by decide +kernel
theorem dX7_init_39 : decode cX7_init 39 = .ok (.newarray .int, 2) := by decide +kernel
theorem dX7_init_41 : decode cX7_init 41 = .ok (.putfield 24, 3) := by decide +kernel
theorem dX7_init_44 : decode cX7_init 44 = .ok (.return_, 1) := by decide +kernel
theorem dX7_chart_0 : decode cX7_chart 0 = .ok (.aload_n 0, 1) := by decide +kernel
theorem dX7_chart_1 : decode cX7_chart 1 = .ok (.lload_n 1, 1) := by decide +kernel
theorem dX7_chart_2 : decode cX7_chart 2 = .ok (.bipush 24, 2) := by decide +kernel
theorem dX7_chart_4 : decode cX7_chart 4 = .ok (.aload_n 0, 1) := by decide +kernel
theorem dX7_chart_5 : decode cX7_chart 5 = .ok (.getfield 9, 3) := by decide +kernel
theorem dX7_chart_8 : decode cX7_chart 8 = .ok (.invokevirtual 27, 3) := by decide +kernel
theorem dX7_chart_11 : decode cX7_chart 11 = .ok (.iconst 0, 1) := by decide +kernel
theorem dX7_chart_12 : decode cX7_chart 12 = .ok (.istore_n 3, 1) := by decide +kernel
theorem dX7_chart_13 : decode cX7_chart 13 = .ok (.iload_n 3, 1) := by decide +kernel
theorem dX7_chart_14 : decode cX7_chart 14 = .ok (.bipush 49, 2) := by decide +kernel
theorem dX7_chart_16 : decode cX7_chart 16 = .ok (.if_icmp .ge 31, 3) := by decide +kernel
theorem dX7_chart_19 : decode cX7_chart 19 = .ok (.aload_n 0, 1) := by decide +kernel
theorem dX7_chart_20 : decode cX7_chart 20 = .ok (.getfield 15, 3) := by decide +kernel
theorem dX7_chart_23 : decode cX7_chart 23 = .ok (.iload_n 3, 1) := by decide +kernel
theorem dX7_chart_24 : decode cX7_chart 24 = .ok (.aload_n 0, 1) := by decide +kernel
theorem dX7_chart_25 : decode cX7_chart 25 = .ok (.iload_n 3, 1) := by decide +kernel
theorem dX7_chart_26 : decode cX7_chart 26 = .ok (.invokevirtual 31, 3) := by decide +kernel
theorem dX7_chart_29 : decode cX7_chart 29 = .ok (.iastore, 1) := by decide +kernel
theorem dX7_chart_30 : decode cX7_chart 30 = .ok (.aload_n 0, 1) := by decide +kernel
theorem dX7_chart_31 : decode cX7_chart 31 = .ok (.getfield 18, 3) := by decide +kernel
theorem dX7_chart_34 : decode cX7_chart 34 = .ok (.iload_n 3, 1) := by decide +kernel
theorem dX7_chart_35 : decode cX7_chart 35 = .ok (.aload_n 0, 1) := by decide +kernel
theorem dX7_chart_36 : decode cX7_chart 36 = .ok (.iload_n 3, 1) := by decide +kernel
theorem dX7_chart_37 : decode cX7_chart 37 = .ok (.invokevirtual 35, 3) := by decide +kernel
theorem dX7_chart_40 : decode cX7_chart 40 = .ok (.iastore, 1) := by decide +kernel
theorem dX7_chart_41 : decode cX7_chart 41 = .ok (.iinc 3 1, 3) := by decide +kernel
theorem dX7_chart_44 : decode cX7_chart 44 = .ok (.goto (-31), 3) := by decide +kernel
theorem dX7_chart_47 : decode cX7_chart 47 = .ok (.return_, 1) := by decide +kernel
theorem dX7_spread_0 : decode cX7_spread 0 = .ok (.aload 4, 2) := by decide +kernel
theorem dX7_spread_2 : decode cX7_spread 2 = .ok (.bipush 99, 2) := by decide +kernel
theorem dX7_spread_4 : decode cX7_spread 4 = .ok (.invokestatic 38, 3) := by decide +kernel
theorem dX7_spread_7 : decode cX7_spread 7 = .ok (.aload 4, 2) := by decide +kernel
theorem dX7_spread_9 : decode cX7_spread 9 = .ok (.iload_n 3, 1) := by decide +kernel
theorem dX7_spread_10 : decode cX7_spread 10 = .ok (.iconst 0, 1) := by decide +kernel
theorem dX7_spread_11 : decode cX7_spread 11 = .ok (.iastore, 1) := by decide +kernel
theorem dX7_spread_12 : decode cX7_spread 12 = .ok (.aload_n 0, 1) := by decide +kernel
theorem dX7_spread_13 : decode cX7_spread 13 = .ok (.getfield 24, 3) := by decide +kernel
theorem dX7_spread_16 : decode cX7_spread 16 = .ok (.iconst 0, 1) := by decide +kernel
theorem dX7_spread_17 : decode cX7_spread 17 = .ok (.iload_n 3, 1) := by decide +kernel
theorem dX7_spread_18 : decode cX7_spread 18 = .ok (.iastore, 1) := by decide +kernel
theorem dX7_spread_19 : decode cX7_spread 19 = .ok (.iconst 1, 1) := by decide +kernel
theorem dX7_spread_20 : decode cX7_spread 20 = .ok (.istore 5, 2) := by decide +kernel
theorem dX7_spread_22 : decode cX7_spread 22 = .ok (.iconst 0, 1) := by decide +kernel
theorem dX7_spread_23 : decode cX7_spread 23 = .ok (.istore 6, 2) := by decide +kernel
theorem dX7_spread_25 : decode cX7_spread 25 = .ok (.iload 6, 2) := by decide +kernel
theorem dX7_spread_27 : decode cX7_spread 27 = .ok (.iload 5, 2) := by decide +kernel
theorem dX7_spread_29 : decode cX7_spread 29 = .ok (.if_icmp .ge 119, 3) := by decide +kernel
theorem dX7_spread_32 : decode cX7_spread 32 = .ok (.iload 6, 2) := by decide +kernel
theorem dX7_spread_34 : decode cX7_spread 34 = .ok (.bipush 49, 2) := by decide +kernel
theorem dX7_spread_36 : decode cX7_spread 36 = .ok (.if_icmp .ge 112, 3) := by decide +kernel
theorem dX7_spread_39 : decode cX7_spread 39 = .ok (.aload_n 0, 1) := by decide +kernel
theorem dX7_spread_40 : decode cX7_spread 40 = .ok (.getfield 24, 3) := by decide +kernel
theorem dX7_spread_43 : decode cX7_spread 43 = .ok (.iload 6, 2) := by decide +kernel
theorem dX7_spread_45 : decode cX7_spread 45 = .ok (.iaload, 1) := by decide +kernel
theorem dX7_spread_46 : decode cX7_spread 46 = .ok (.istore 7, 2) := by decide +kernel
theorem dX7_spread_48 : decode cX7_spread 48 = .ok (.iconst 0, 1) := by decide +kernel
theorem dX7_spread_49 : decode cX7_spread 49 = .ok (.istore 8, 2) := by decide +kernel
theorem dX7_spread_51 : decode cX7_spread 51 = .ok (.iload 8, 2) := by decide +kernel
theorem dX7_spread_53 : decode cX7_spread 53 = .ok (.iconst 4, 1) := by decide +kernel
theorem dX7_spread_54 : decode cX7_spread 54 = .ok (.if_icmp .ge 88, 3) := by decide +kernel
theorem dX7_spread_57 : decode cX7_spread 57 = .ok (.iload 7, 2) := by decide +kernel
theorem dX7_spread_59 : decode cX7_spread 59 = .ok (.iload 8, 2) := by decide +kernel
theorem dX7_spread_61 : decode cX7_spread 61 = .ok (.invokestatic 44, 3) := by decide +kernel
theorem dX7_spread_64 : decode cX7_spread 64 = .ok (.istore 9, 2) := by decide +kernel
theorem dX7_spread_66 : decode cX7_spread 66 = .ok (.iload 9, 2) := by decide +kernel
theorem dX7_spread_68 : decode cX7_spread 68 = .ok (.iconst (-1), 1) := by decide +kernel
theorem dX7_spread_69 : decode cX7_spread 69 = .ok (.if_icmp .eq 28, 3) := by decide +kernel
theorem dX7_spread_72 : decode cX7_spread 72 = .ok (.lload_n 1, 1) := by decide +kernel
theorem dX7_spread_73 : decode cX7_spread 73 = .ok (.iload 9, 2) := by decide +kernel
theorem dX7_spread_75 : decode cX7_spread 75 = .ok (.lushr, 1) := by decide +kernel
theorem dX7_spread_76 : decode cX7_spread 76 = .ok (.lconst 1, 1) := by decide +kernel
theorem dX7_spread_77 : decode cX7_spread 77 = .ok (.land, 1) := by decide +kernel
theorem dX7_spread_78 : decode cX7_spread 78 = .ok (.lconst 0, 1) := by decide +kernel
theorem dX7_spread_79 : decode cX7_spread 79 = .ok (.lcmp, 1) := by decide +kernel
theorem dX7_spread_80 : decode cX7_spread 80 = .ok (.ifCond .ne 17, 3) := by decide +kernel
theorem dX7_spread_83 : decode cX7_spread 83 = .ok (.aload 4, 2) := by decide +kernel
theorem dX7_spread_85 : decode cX7_spread 85 = .ok (.iload 9, 2) := by decide +kernel
theorem dX7_spread_87 : decode cX7_spread 87 = .ok (.iaload, 1) := by decide +kernel
theorem dX7_spread_88 : decode cX7_spread 88 = .ok (.bipush 99, 2) := by decide +kernel
theorem dX7_spread_90 : decode cX7_spread 90 = .ok (.if_icmp .ne 7, 3) := by decide +kernel
theorem dX7_spread_93 : decode cX7_spread 93 = .ok (.iconst 1, 1) := by decide +kernel
theorem dX7_spread_94 : decode cX7_spread 94 = .ok (.goto 4, 3) := by decide +kernel
theorem dX7_spread_97 : decode cX7_spread 97 = .ok (.iconst 0, 1) := by decide +kernel
theorem dX7_spread_98 : decode cX7_spread 98 = .ok (.istore 10, 2) := by decide +kernel
theorem dX7_spread_100 : decode cX7_spread 100 = .ok (.iload 10, 2) := by decide +kernel
theorem dX7_spread_102 : decode cX7_spread 102 = .ok (.ifCond .eq 34, 3) := by decide +kernel
theorem dX7_spread_105 : decode cX7_spread 105 = .ok (.iload 5, 2) := by decide +kernel
theorem dX7_spread_107 : decode cX7_spread 107 = .ok (.bipush 49, 2) := by decide +kernel
theorem dX7_spread_109 : decode cX7_spread 109 = .ok (.if_icmp .ge 27, 3) := by decide +kernel
theorem dX7_spread_112 : decode cX7_spread 112 = .ok (.aload 4, 2) := by decide +kernel
theorem dX7_spread_114 : decode cX7_spread 114 = .ok (.iload 9, 2) := by decide +kernel
theorem dX7_spread_116 : decode cX7_spread 116 = .ok (.aload 4, 2) := by decide +kernel
theorem dX7_spread_118 : decode cX7_spread 118 = .ok (.iload 7, 2) := by decide +kernel
theorem dX7_spread_120 : decode cX7_spread 120 = .ok (.iaload, 1) := by decide +kernel
theorem dX7_spread_121 : decode cX7_spread 121 = .ok (.iconst 1, 1) := by decide +kernel
theorem dX7_spread_122 : decode cX7_spread 122 = .ok (.iadd, 1) := by decide +kernel
theorem dX7_spread_123 : decode cX7_spread 123 = .ok (.iastore, 1) := by decide +kernel
theorem dX7_spread_124 : decode cX7_spread 124 = .ok (.aload_n 0, 1) := by decide +kernel
theorem dX7_spread_125 : decode cX7_spread 125 = .ok (.getfield 24, 3) := by decide +kernel
theorem dX7_spread_128 : decode cX7_spread 128 = .ok (.iload 5, 2) := by decide +kernel
theorem dX7_spread_130 : decode cX7_spread 130 = .ok (.iload 9, 2) := by decide +kernel
theorem dX7_spread_132 : decode cX7_spread 132 = .ok (.iastore, 1) := by decide +kernel
theorem dX7_spread_133 : decode cX7_spread 133 = .ok (.iinc 5 1, 3) := by decide +kernel
theorem dX7_spread_136 : decode cX7_spread 136 = .ok (.iinc 8 1, 3) := by decide +kernel
theorem dX7_spread_139 : decode cX7_spread 139 = .ok (.goto (-88), 3) := by decide +kernel
theorem dX7_spread_142 : decode cX7_spread 142 = .ok (.iinc 6 1, 3) := by decide +kernel
theorem dX7_spread_145 : decode cX7_spread 145 = .ok (.goto (-120), 3) := by decide +kernel
theorem dX7_spread_148 : decode cX7_spread 148 = .ok (.return_, 1) := by decide +kernel
theorem dX7_stepAway_0 : decode cX7_stepAway 0 = .ok (.iload_n 1, 1) := by decide +kernel
theorem dX7_stepAway_1 : decode cX7_stepAway 1 = .ok (.istore_n 2, 1) := by decide +kernel
theorem dX7_stepAway_2 : decode cX7_stepAway 2 = .ok (.iconst 0, 1) := by decide +kernel
theorem dX7_stepAway_3 : decode cX7_stepAway 3 = .ok (.istore_n 3, 1) := by decide +kernel
theorem dX7_stepAway_4 : decode cX7_stepAway 4 = .ok (.iload_n 3, 1) := by decide +kernel
theorem dX7_stepAway_5 : decode cX7_stepAway 5 = .ok (.iconst 4, 1) := by decide +kernel
theorem dX7_stepAway_6 : decode cX7_stepAway 6 = .ok (.if_icmp .ge 53, 3) := by decide +kernel
theorem dX7_stepAway_9 : decode cX7_stepAway 9 = .ok (.iload_n 1, 1) := by decide +kernel
theorem dX7_stepAway_10 : decode cX7_stepAway 10 = .ok (.iload_n 3, 1) := by decide +kernel
theorem dX7_stepAway_11 : decode cX7_stepAway 11 = .ok (.invokestatic 44, 3) := by decide +kernel
theorem dX7_stepAway_14 : decode cX7_stepAway 14 = .ok (.istore 4, 2) := by decide +kernel
theorem dX7_stepAway_16 : decode cX7_stepAway 16 = .ok (.iload 4, 2) := by decide +kernel
theorem dX7_stepAway_18 : decode cX7_stepAway 18 = .ok (.iconst (-1), 1) := by decide +kernel
theorem dX7_stepAway_19 : decode cX7_stepAway 19 = .ok (.if_icmp .eq 34, 3) := by decide +kernel
theorem dX7_stepAway_22 : decode cX7_stepAway 22 = .ok (.aload_n 0, 1) := by decide +kernel
theorem dX7_stepAway_23 : decode cX7_stepAway 23 = .ok (.getfield 9, 3) := by decide +kernel
theorem dX7_stepAway_26 : decode cX7_stepAway 26 = .ok (.iload 4, 2) := by decide +kernel
theorem dX7_stepAway_28 : decode cX7_stepAway 28 = .ok (.iaload, 1) := by decide +kernel
theorem dX7_stepAway_29 : decode cX7_stepAway 29 = .ok (.bipush 99, 2) := by decide +kernel
theorem dX7_stepAway_31 : decode cX7_stepAway 31 = .ok (.if_icmp .eq 22, 3) := by decide +kernel
theorem dX7_stepAway_34 : decode cX7_stepAway 34 = .ok (.aload_n 0, 1) := by decide +kernel
theorem dX7_stepAway_35 : decode cX7_stepAway 35 = .ok (.getfield 9, 3) := by decide +kernel
theorem dX7_stepAway_38 : decode cX7_stepAway 38 = .ok (.iload 4, 2) := by decide +kernel
theorem dX7_stepAway_40 : decode cX7_stepAway 40 = .ok (.iaload, 1) := by decide +kernel
theorem dX7_stepAway_41 : decode cX7_stepAway 41 = .ok (.aload_n 0, 1) := by decide +kernel
theorem dX7_stepAway_42 : decode cX7_stepAway 42 = .ok (.getfield 9, 3) := by decide +kernel
theorem dX7_stepAway_45 : decode cX7_stepAway 45 = .ok (.iload_n 2, 1) := by decide +kernel
theorem dX7_stepAway_46 : decode cX7_stepAway 46 = .ok (.iaload, 1) := by decide +kernel
theorem dX7_stepAway_47 : decode cX7_stepAway 47 = .ok (.if_icmp .le 6, 3) := by decide +kernel
theorem dX7_stepAway_50 : decode cX7_stepAway 50 = .ok (.iload 4, 2) := by decide +kernel
theorem dX7_stepAway_52 : decode cX7_stepAway 52 = .ok (.istore_n 2, 1) := by decide +kernel
theorem dX7_stepAway_53 : decode cX7_stepAway 53 = .ok (.iinc 3 1, 3) := by decide +kernel
theorem dX7_stepAway_56 : decode cX7_stepAway 56 = .ok (.goto (-52), 3) := by decide +kernel
theorem dX7_stepAway_59 : decode cX7_stepAway 59 = .ok (.iload_n 2, 1) := by decide +kernel
theorem dX7_stepAway_60 : decode cX7_stepAway 60 = .ok (.ireturn, 1) := by decide +kernel
theorem dX7_stepToward_0 : decode cX7_stepToward 0 = .ok (.iload_n 1, 1) := by decide +kernel
theorem dX7_stepToward_1 : decode cX7_stepToward 1 = .ok (.istore_n 2, 1) := by decide +kernel
theorem dX7_stepToward_2 : decode cX7_stepToward 2 = .ok (.iconst 0, 1) := by decide +kernel
theorem dX7_stepToward_3 : decode cX7_stepToward 3 = .ok (.istore_n 3, 1) := by decide +kernel
theorem dX7_stepToward_4 : decode cX7_stepToward 4 = .ok (.iload_n 3, 1) := by decide +kernel
theorem dX7_stepToward_5 : decode cX7_stepToward 5 = .ok (.iconst 4, 1) := by decide +kernel
theorem dX7_stepToward_6 : decode cX7_stepToward 6 = .ok (.if_icmp .ge 41, 3) := by decide +kernel
theorem dX7_stepToward_9 : decode cX7_stepToward 9 = .ok (.iload_n 1, 1) := by decide +kernel
theorem dX7_stepToward_10 : decode cX7_stepToward 10 = .ok (.iload_n 3, 1) := by decide +kernel
theorem dX7_stepToward_11 : decode cX7_stepToward 11 = .ok (.invokestatic 44, 3) := by decide +kernel
theorem dX7_stepToward_14 : decode cX7_stepToward 14 = .ok (.istore 4, 2) := by decide +kernel
theorem dX7_stepToward_16 : decode cX7_stepToward 16 = .ok (.iload 4, 2) := by decide +kernel
theorem dX7_stepToward_18 : decode cX7_stepToward 18 = .ok (.iconst (-1), 1) := by decide +kernel
theorem dX7_stepToward_19 : decode cX7_stepToward 19 = .ok (.if_icmp .eq 22, 3) := by decide +kernel
theorem dX7_stepToward_22 : decode cX7_stepToward 22 = .ok (.aload_n 0, 1) := by decide +kernel
theorem dX7_stepToward_23 : decode cX7_stepToward 23 = .ok (.getfield 9, 3) := by decide +kernel
theorem dX7_stepToward_26 : decode cX7_stepToward 26 = .ok (.iload 4, 2) := by decide +kernel
theorem dX7_stepToward_28 : decode cX7_stepToward 28 = .ok (.iaload, 1) := by decide +kernel
theorem dX7_stepToward_29 : decode cX7_stepToward 29 = .ok (.aload_n 0, 1) := by decide +kernel
theorem dX7_stepToward_30 : decode cX7_stepToward 30 = .ok (.getfield 9, 3) := by decide +kernel
theorem dX7_stepToward_33 : decode cX7_stepToward 33 = .ok (.iload_n 2, 1) := by decide +kernel
theorem dX7_stepToward_34 : decode cX7_stepToward 34 = .ok (.iaload, 1) := by decide +kernel
theorem dX7_stepToward_35 : decode cX7_stepToward 35 = .ok (.if_icmp .ge 6, 3) := by decide +kernel
theorem dX7_stepToward_38 : decode cX7_stepToward 38 = .ok (.iload 4, 2) := by decide +kernel
theorem dX7_stepToward_40 : decode cX7_stepToward 40 = .ok (.istore_n 2, 1) := by decide +kernel
theorem dX7_stepToward_41 : decode cX7_stepToward 41 = .ok (.iinc 3 1, 3) := by decide +kernel
theorem dX7_stepToward_44 : decode cX7_stepToward 44 = .ok (.goto (-40), 3) := by decide +kernel
theorem dX7_stepToward_47 : decode cX7_stepToward 47 = .ok (.iload_n 2, 1) := by decide +kernel
theorem dX7_stepToward_48 : decode cX7_stepToward 48 = .ok (.ireturn, 1) := by decide +kernel
theorem dX7_beside_0 : decode cX7_beside 0 = .ok (.iload_n 1, 1) := by decide +kernel
theorem dX7_beside_1 : decode cX7_beside 1 = .ok (.tableswitch 93 0 3 #[31, 46, 61, 78], 31) := by decide +kernel
theorem dX7_beside_32 : decode cX7_beside 32 = .ok (.iload_n 0, 1) := by decide +kernel
theorem dX7_beside_33 : decode cX7_beside 33 = .ok (.bipush 7, 2) := by decide +kernel
theorem dX7_beside_35 : decode cX7_beside 35 = .ok (.if_icmp .lt 10, 3) := by decide +kernel
theorem dX7_beside_38 : decode cX7_beside 38 = .ok (.iload_n 0, 1) := by decide +kernel
theorem dX7_beside_39 : decode cX7_beside 39 = .ok (.bipush 7, 2) := by decide +kernel
theorem dX7_beside_41 : decode cX7_beside 41 = .ok (.isub, 1) := by decide +kernel
theorem dX7_beside_42 : decode cX7_beside 42 = .ok (.goto 4, 3) := by decide +kernel
theorem dX7_beside_45 : decode cX7_beside 45 = .ok (.iconst (-1), 1) := by decide +kernel
theorem dX7_beside_46 : decode cX7_beside 46 = .ok (.ireturn, 1) := by decide +kernel
theorem dX7_beside_47 : decode cX7_beside 47 = .ok (.iload_n 0, 1) := by decide +kernel
theorem dX7_beside_48 : decode cX7_beside 48 = .ok (.bipush 7, 2) := by decide +kernel
theorem dX7_beside_50 : decode cX7_beside 50 = .ok (.irem, 1) := by decide +kernel
theorem dX7_beside_51 : decode cX7_beside 51 = .ok (.ifCond .le 9, 3) := by decide +kernel
theorem dX7_beside_54 : decode cX7_beside 54 = .ok (.iload_n 0, 1) := by decide +kernel
theorem dX7_beside_55 : decode cX7_beside 55 = .ok (.iconst 1, 1) := by decide +kernel
theorem dX7_beside_56 : decode cX7_beside 56 = .ok (.isub, 1) := by decide +kernel
theorem dX7_beside_57 : decode cX7_beside 57 = .ok (.goto 4, 3) := by decide +kernel
theorem dX7_beside_60 : decode cX7_beside 60 = .ok (.iconst (-1), 1) := by decide +kernel
theorem dX7_beside_61 : decode cX7_beside 61 = .ok (.ireturn, 1) := by decide +kernel
theorem dX7_beside_62 : decode cX7_beside 62 = .ok (.iload_n 0, 1) := by decide +kernel
theorem dX7_beside_63 : decode cX7_beside 63 = .ok (.bipush 7, 2) := by decide +kernel
theorem dX7_beside_65 : decode cX7_beside 65 = .ok (.irem, 1) := by decide +kernel
theorem dX7_beside_66 : decode cX7_beside 66 = .ok (.bipush 6, 2) := by decide +kernel
theorem dX7_beside_68 : decode cX7_beside 68 = .ok (.if_icmp .ge 9, 3) := by decide +kernel
theorem dX7_beside_71 : decode cX7_beside 71 = .ok (.iload_n 0, 1) := by decide +kernel
theorem dX7_beside_72 : decode cX7_beside 72 = .ok (.iconst 1, 1) := by decide +kernel
theorem dX7_beside_73 : decode cX7_beside 73 = .ok (.iadd, 1) := by decide +kernel
theorem dX7_beside_74 : decode cX7_beside 74 = .ok (.goto 4, 3) := by decide +kernel
theorem dX7_beside_77 : decode cX7_beside 77 = .ok (.iconst (-1), 1) := by decide +kernel
theorem dX7_beside_78 : decode cX7_beside 78 = .ok (.ireturn, 1) := by decide +kernel
theorem dX7_beside_79 : decode cX7_beside 79 = .ok (.iload_n 0, 1) := by decide +kernel
theorem dX7_beside_80 : decode cX7_beside 80 = .ok (.bipush 42, 2) := by decide +kernel
theorem dX7_beside_82 : decode cX7_beside 82 = .ok (.if_icmp .ge 10, 3) := by decide +kernel
theorem dX7_beside_85 : decode cX7_beside 85 = .ok (.iload_n 0, 1) := by decide +kernel
theorem dX7_beside_86 : decode cX7_beside 86 = .ok (.bipush 7, 2) := by decide +kernel
theorem dX7_beside_88 : decode cX7_beside 88 = .ok (.iadd, 1) := by decide +kernel
theorem dX7_beside_89 : decode cX7_beside 89 = .ok (.goto 4, 3) := by decide +kernel
theorem dX7_beside_92 : decode cX7_beside 92 = .ok (.iconst (-1), 1) := by decide +kernel
theorem dX7_beside_93 : decode cX7_beside 93 = .ok (.ireturn, 1) := by decide +kernel
theorem dX7_beside_94 : decode cX7_beside 94 = .ok (.iconst (-1), 1) := by decide +kernel
theorem dX7_beside_95 : decode cX7_beside 95 = .ok (.ireturn, 1) := by decide +kernel
theorem dX7_walk_0 : decode cX7_walk 0 = .ok (.iload_n 1, 1) := by decide +kernel
theorem dX7_walk_1 : decode cX7_walk 1 = .ok (.istore 4, 2) := by decide +kernel
theorem dX7_walk_3 : decode cX7_walk 3 = .ok (.iconst 0, 1) := by decide +kernel
theorem dX7_walk_4 : decode cX7_walk 4 = .ok (.istore 5, 2) := by decide +kernel
theorem dX7_walk_6 : decode cX7_walk 6 = .ok (.iload 5, 2) := by decide +kernel
theorem dX7_walk_8 : decode cX7_walk 8 = .ok (.iload_n 3, 1) := by decide +kernel
theorem dX7_walk_9 : decode cX7_walk 9 = .ok (.if_icmp .ge 32, 3) := by decide +kernel
theorem dX7_walk_12 : decode cX7_walk 12 = .ok (.iload_n 2, 1) := by decide +kernel
theorem dX7_walk_13 : decode cX7_walk 13 = .ok (.ifCond .eq 13, 3) := by decide +kernel
theorem dX7_walk_16 : decode cX7_walk 16 = .ok (.aload_n 0, 1) := by decide +kernel
theorem dX7_walk_17 : decode cX7_walk 17 = .ok (.getfield 15, 3) := by decide +kernel
theorem dX7_walk_20 : decode cX7_walk 20 = .ok (.iload 4, 2) := by decide +kernel
theorem dX7_walk_22 : decode cX7_walk 22 = .ok (.iaload, 1) := by decide +kernel
theorem dX7_walk_23 : decode cX7_walk 23 = .ok (.goto 10, 3) := by decide +kernel
theorem dX7_walk_26 : decode cX7_walk 26 = .ok (.aload_n 0, 1) := by decide +kernel
theorem dX7_walk_27 : decode cX7_walk 27 = .ok (.getfield 18, 3) := by decide +kernel
theorem dX7_walk_30 : decode cX7_walk 30 = .ok (.iload 4, 2) := by decide +kernel
theorem dX7_walk_32 : decode cX7_walk 32 = .ok (.iaload, 1) := by decide +kernel
theorem dX7_walk_33 : decode cX7_walk 33 = .ok (.istore 4, 2) := by decide +kernel
theorem dX7_walk_35 : decode cX7_walk 35 = .ok (.iinc 5 1, 3) := by decide +kernel
theorem dX7_walk_38 : decode cX7_walk 38 = .ok (.goto (-32), 3) := by decide +kernel
theorem dX7_walk_41 : decode cX7_walk 41 = .ok (.iload 4, 2) := by decide +kernel
theorem dX7_walk_43 : decode cX7_walk 43 = .ok (.ireturn, 1) := by decide +kernel
theorem dX8_init_0 : decode cX8_init 0 = .ok (.aload_n 0, 1) := by decide +kernel
theorem dX8_init_1 : decode cX8_init 1 = .ok (.invokespecial 1, 3) := by decide +kernel
theorem dX8_init_4 : decode cX8_init 4 = .ok (.aload_n 0, 1) := by decide +kernel
theorem dX8_init_5 : decode cX8_init 5 = .ok (.new 7, 3) := by decide +kernel
theorem dX8_init_8 : decode cX8_init 8 = .ok (.dup, 1) := by decide +kernel
theorem dX8_init_9 : decode cX8_init 9 = .ok (.invokespecial 9, 3) := by decide +kernel
theorem dX8_init_12 : decode cX8_init 12 = .ok (.putfield 10, 3) := by decide +kernel
theorem dX8_init_15 : decode cX8_init 15 = .ok (.aload_n 0, 1) := by decide +kernel
theorem dX8_init_16 : decode cX8_init 16 = .ok (.new 7, 3) := by decide +kernel
theorem dX8_init_19 : decode cX8_init 19 = .ok (.dup, 1) := by decide +kernel
theorem dX8_init_20 : decode cX8_init 20 = .ok (.invokespecial 9, 3) := by decide +kernel
theorem dX8_init_23 : decode cX8_init 23 = .ok (.putfield 16, 3) := by decide +kernel
theorem dX8_init_26 : decode cX8_init 26 = .ok (.aload_n 0, 1) := by decide +kernel
theorem dX8_init_27 : decode cX8_init 27 = .ok (.new 7, 3) := by decide +kernel
theorem dX8_init_30 : decode cX8_init 30 = .ok (.dup, 1) := by decide +kernel
theorem dX8_init_31 : decode cX8_init 31 = .ok (.invokespecial 9, 3) := by decide +kernel
theorem dX8_init_34 : decode cX8_init 34 = .ok (.putfield 19, 3) := by decide +kernel
theorem dX8_init_37 : decode cX8_init 37 = .ok (.aload_n 0, 1) := by decide +kernel
theorem dX8_init_38 : decode cX8_init 38 = .ok (.bipush 8, 2) := by decide +kernel
theorem dX8_init_40 : decode cX8_init 40 = .ok (.anewarray 22, 3) := by decide +kernel
theorem dX8_init_43 : decode cX8_init 43 = .ok (.putfield 24, 3) := by decide +kernel
theorem dX8_init_46 : decode cX8_init 46 = .ok (.aload_n 0, 1) := by decide +kernel
theorem dX8_init_47 : decode cX8_init 47 = .ok (.bipush 8, 2) := by decide +kernel
theorem dX8_init_49 : decode cX8_init 49 = .ok (.newarray .int, 2) := by decide +kernel
theorem dX8_init_51 : decode cX8_init 51 = .ok (.putfield 28, 3) := by decide +kernel
theorem dX8_init_54 : decode cX8_init 54 = .ok (.aload_n 0, 1) := by decide +kernel
theorem dX8_init_55 : decode cX8_init 55 = .ok (.new 32, 3) := by decide +kernel
theorem dX8_init_58 : decode cX8_init 58 = .ok (.dup, 1) := by decide +kernel
theorem dX8_init_59 : decode cX8_init 59 = .ok (.invokespecial 34, 3) := by decide +kernel
theorem dX8_init_62 : decode cX8_init 62 = .ok (.putfield 35, 3) := by decide +kernel
theorem dX8_init_65 : decode cX8_init 65 = .ok (.aload_n 0, 1) := by decide +kernel
theorem dX8_init_66 : decode cX8_init 66 = .ok (.new 39, 3) := by decide +kernel
theorem dX8_init_69 : decode cX8_init 69 = .ok (.dup, 1) := by decide +kernel
theorem dX8_init_70 : decode cX8_init 70 = .ok (.invokespecial 41, 3) := by decide +kernel
theorem dX8_init_73 : decode cX8_init 73 = .ok (.putfield 42, 3) := by decide +kernel
theorem dX8_init_76 : decode cX8_init 76 = .ok (.aload_n 0, 1) := by decide +kernel
theorem dX8_init_77 : decode cX8_init 77 = .ok (.new 46, 3) := by decide +kernel
theorem dX8_init_80 : decode cX8_init 80 = .ok (.dup, 1) := by decide +kernel
theorem dX8_init_81 : decode cX8_init 81 = .ok (.invokespecial 48, 3) := by decide +kernel
theorem dX8_init_84 : decode cX8_init 84 = .ok (.putfield 49, 3) := by decide +kernel
theorem dX8_init_87 : decode cX8_init 87 = .ok (.aload_n 0, 1) := by decide +kernel
theorem dX8_init_88 : decode cX8_init 88 = .ok (.new 53, 3) := by decide +kernel
theorem dX8_init_91 : decode cX8_init 91 = .ok (.dup, 1) := by decide +kernel
theorem dX8_init_92 : decode cX8_init 92 = .ok (.invokespecial 55, 3) := by decide +kernel
theorem dX8_init_95 : decode cX8_init 95 = .ok (.putfield 56, 3) := by decide +kernel
theorem dX8_init_98 : decode cX8_init 98 = .ok (.aload_n 0, 1) := by decide +kernel
theorem dX8_init_99 : decode cX8_init 99 = .ok (.iconst 0, 1) := by decide +kernel
theorem dX8_init_100 : decode cX8_init 100 = .ok (.putfield 60, 3) := by decide +kernel
theorem dX8_init_103 : decode cX8_init 103 = .ok (.aload_n 0, 1) := by decide +kernel
theorem dX8_init_104 : decode cX8_init 104 = .ok (.iconst (-1), 1) := by decide +kernel
theorem dX8_init_105 : decode cX8_init 105 = .ok (.putfield 64, 3) := by decide +kernel
theorem dX8_init_108 : decode cX8_init 108 = .ok (.iconst 0, 1) := by decide +kernel
theorem dX8_init_109 : decode cX8_init 109 = .ok (.istore_n 1, 1) := by decide +kernel
theorem dX8_init_110 : decode cX8_init 110 = .ok (.iload_n 1, 1) := by decide +kernel
theorem dX8_init_111 : decode cX8_init 111 = .ok (.bipush 8, 2) := by decide +kernel
theorem dX8_init_113 : decode cX8_init 113 = .ok (.if_icmp .ge 22, 3) := by decide +kernel
theorem dX8_init_116 : decode cX8_init 116 = .ok (.aload_n 0, 1) := by decide +kernel
theorem dX8_init_117 : decode cX8_init 117 = .ok (.getfield 24, 3) := by decide +kernel
theorem dX8_init_120 : decode cX8_init 120 = .ok (.iload_n 1, 1) := by decide +kernel
theorem dX8_init_121 : decode cX8_init 121 = .ok (.new 22, 3) := by decide +kernel
theorem dX8_init_124 : decode cX8_init 124 = .ok (.dup, 1) := by decide +kernel
theorem dX8_init_125 : decode cX8_init 125 = .ok (.invokespecial 68, 3) := by decide +kernel
theorem dX8_init_128 : decode cX8_init 128 = .ok (.aastore, 1) := by decide +kernel
theorem dX8_init_129 : decode cX8_init 129 = .ok (.iinc 1 1, 3) := by decide +kernel
theorem dX8_init_132 : decode cX8_init 132 = .ok (.goto (-22), 3) := by decide +kernel
theorem dX8_init_135 : decode cX8_init 135 = .ok (.return_, 1) := by decide +kernel
theorem dX8_row_0 : decode cX8_row 0 = .ok (.iload_n 1, 1) := by decide +kernel
theorem dX8_row_1 : decode cX8_row 1 = .ok (.invokestatic 69, 3) := by decide +kernel
theorem dX8_row_4 : decode cX8_row 4 = .ok (.ifCond .ne 9, 3) := by decide +kernel
theorem dX8_row_7 : decode cX8_row 7 = .ok (.aload_n 0, 1) := by decide +kernel
theorem dX8_row_8 : decode cX8_row 8 = .ok (.iconst 1, 1) := by decide +kernel
theorem dX8_row_9 : decode cX8_row 9 = .ok (.invokevirtual 73, 3) := by decide +kernel
theorem dX8_row_12 : decode cX8_row 12 = .ok (.ireturn, 1) := by decide +kernel
theorem dX8_row_13 : decode cX8_row 13 = .ok (.iload_n 3, 1) := by decide +kernel
theorem dX8_row_14 : decode cX8_row 14 = .ok (.ifCond .ge 9, 3) := by decide +kernel
theorem dX8_row_17 : decode cX8_row 17 = .ok (.aload_n 0, 1) := by decide +kernel
theorem dX8_row_18 : decode cX8_row 18 = .ok (.iconst 4, 1) := by decide +kernel
theorem dX8_row_19 : decode cX8_row 19 = .ok (.invokevirtual 73, 3) := by decide +kernel
theorem dX8_row_22 : decode cX8_row 22 = .ok (.ireturn, 1) := by decide +kernel
theorem dX8_row_23 : decode cX8_row 23 = .ok (.iload_n 2, 1) := by decide +kernel
theorem dX8_row_24 : decode cX8_row 24 = .ok (.ifCond .lt 8, 3) := by decide +kernel
theorem dX8_row_27 : decode cX8_row 27 = .ok (.iload_n 2, 1) := by decide +kernel
theorem dX8_row_28 : decode cX8_row 28 = .ok (.iconst 4, 1) := by decide +kernel
theorem dX8_row_29 : decode cX8_row 29 = .ok (.if_icmp .lt 10, 3) := by decide +kernel
theorem dX8_row_32 : decode cX8_row 32 = .ok (.aload_n 0, 1) := by decide +kernel
theorem dX8_row_33 : decode cX8_row 33 = .ok (.bipush 6, 2) := by decide +kernel
theorem dX8_row_35 : decode cX8_row 35 = .ok (.invokevirtual 73, 3) := by decide +kernel
theorem dX8_row_38 : decode cX8_row 38 = .ok (.ireturn, 1) := by decide +kernel
theorem dX8_row_39 : decode cX8_row 39 = .ok (.iload_n 3, 1) := by decide +kernel
theorem dX8_row_40 : decode cX8_row 40 = .ok (.sipush 160, 3) := by decide +kernel
theorem dX8_row_43 : decode cX8_row 43 = .ok (.if_icmp .le 10, 3) := by decide +kernel
theorem dX8_row_46 : decode cX8_row 46 = .ok (.aload_n 0, 1) := by decide +kernel
theorem dX8_row_47 : decode cX8_row 47 = .ok (.bipush 7, 2) := by decide +kernel
theorem dX8_row_49 : decode cX8_row 49 = .ok (.invokevirtual 73, 3) := by decide +kernel
theorem dX8_row_52 : decode cX8_row 52 = .ok (.ireturn, 1) := by decide +kernel
theorem dX8_row_53 : decode cX8_row 53 = .ok (.aload_n 0, 1) := by decide +kernel
theorem dX8_row_54 : decode cX8_row 54 = .ok (.getfield 24, 3) := by decide +kernel
theorem dX8_row_57 : decode cX8_row 57 = .ok (.iload_n 1, 1) := by decide +kernel
theorem dX8_row_58 : decode cX8_row 58 = .ok (.aaload, 1) := by decide +kernel
theorem dX8_row_59 : decode cX8_row 59 = .ok (.iload_n 2, 1) := by decide +kernel
theorem dX8_row_60 : decode cX8_row 60 = .ok (.iload_n 3, 1) := by decide +kernel
theorem dX8_row_61 : decode cX8_row 61 = .ok (.invokevirtual 77, 3) := by decide +kernel
theorem dX8_row_64 : decode cX8_row 64 = .ok (.iconst 1, 1) := by decide +kernel
theorem dX8_row_65 : decode cX8_row 65 = .ok (.ireturn, 1) := by decide +kernel
theorem dX8_set_0 : decode cX8_set 0 = .ok (.aload_n 0, 1) := by decide +kernel
theorem dX8_set_1 : decode cX8_set 1 = .ok (.iload_n 1, 1) := by decide +kernel
theorem dX8_set_2 : decode cX8_set 2 = .ok (.invokevirtual 81, 3) := by decide +kernel
theorem dX8_set_5 : decode cX8_set 5 = .ok (.istore 5, 2) := by decide +kernel
theorem dX8_set_7 : decode cX8_set 7 = .ok (.iload 5, 2) := by decide +kernel
theorem dX8_set_9 : decode cX8_set 9 = .ok (.ifCond .eq 10, 3) := by decide +kernel
theorem dX8_set_12 : decode cX8_set 12 = .ok (.aload_n 0, 1) := by decide +kernel
theorem dX8_set_13 : decode cX8_set 13 = .ok (.iload 5, 2) := by decide +kernel
theorem dX8_set_15 : decode cX8_set 15 = .ok (.invokevirtual 73, 3) := by decide +kernel
theorem dX8_set_18 : decode cX8_set 18 = .ok (.ireturn, 1) := by decide +kernel
theorem dX8_set_19 : decode cX8_set 19 = .ok (.aload_n 0, 1) := by decide +kernel
theorem dX8_set_20 : decode cX8_set 20 = .ok (.getfield 24, 3) := by decide +kernel
theorem dX8_set_23 : decode cX8_set 23 = .ok (.iload_n 1, 1) := by decide +kernel
theorem dX8_set_24 : decode cX8_set 24 = .ok (.aaload, 1) := by decide +kernel
theorem dX8_set_25 : decode cX8_set 25 = .ok (.iload_n 2, 1) := by decide +kernel
theorem dX8_set_26 : decode cX8_set 26 = .ok (.invokevirtual 84, 3) := by decide +kernel
theorem dX8_set_29 : decode cX8_set 29 = .ok (.ifCond .ne 9, 3) := by decide +kernel
theorem dX8_set_32 : decode cX8_set 32 = .ok (.aload_n 0, 1) := by decide +kernel
theorem dX8_set_33 : decode cX8_set 33 = .ok (.iconst 5, 1) := by decide +kernel
theorem dX8_set_34 : decode cX8_set 34 = .ok (.invokevirtual 73, 3) := by decide +kernel
theorem dX8_set_37 : decode cX8_set 37 = .ok (.ireturn, 1) := by decide +kernel
theorem dX8_set_38 : decode cX8_set 38 = .ok (.aload_n 0, 1) := by decide +kernel
theorem dX8_set_39 : decode cX8_set 39 = .ok (.getfield 24, 3) := by decide +kernel
theorem dX8_set_42 : decode cX8_set 42 = .ok (.iload_n 1, 1) := by decide +kernel
theorem dX8_set_43 : decode cX8_set 43 = .ok (.aaload, 1) := by decide +kernel
theorem dX8_set_44 : decode cX8_set 44 = .ok (.iload_n 2, 1) := by decide +kernel
theorem dX8_set_45 : decode cX8_set 45 = .ok (.lload_n 3, 1) := by decide +kernel
theorem dX8_set_46 : decode cX8_set 46 = .ok (.invokevirtual 87, 3) := by decide +kernel
theorem dX8_set_49 : decode cX8_set 49 = .ok (.iconst 1, 1) := by decide +kernel
theorem dX8_set_50 : decode cX8_set 50 = .ok (.ireturn, 1) := by decide +kernel
theorem dX8_copy_0 : decode cX8_copy 0 = .ok (.iload_n 1, 1) := by decide +kernel
theorem dX8_copy_1 : decode cX8_copy 1 = .ok (.invokestatic 69, 3) := by decide +kernel
theorem dX8_copy_4 : decode cX8_copy 4 = .ok (.ifCond .eq 10, 3) := by decide +kernel
theorem dX8_copy_7 : decode cX8_copy 7 = .ok (.iload_n 2, 1) := by decide +kernel
theorem dX8_copy_8 : decode cX8_copy 8 = .ok (.invokestatic 69, 3) := by decide +kernel
theorem dX8_copy_11 : decode cX8_copy 11 = .ok (.ifCond .ne 9, 3) := by decide +kernel
theorem dX8_copy_14 : decode cX8_copy 14 = .ok (.aload_n 0, 1) := by decide +kernel
theorem dX8_copy_15 : decode cX8_copy 15 = .ok (.iconst 1, 1) := by decide +kernel
theorem dX8_copy_16 : decode cX8_copy 16 = .ok (.invokevirtual 73, 3) := by decide +kernel
theorem dX8_copy_19 : decode cX8_copy 19 = .ok (.ireturn, 1) := by decide +kernel
theorem dX8_copy_20 : decode cX8_copy 20 = .ok (.aload_n 0, 1) := by decide +kernel
theorem dX8_copy_21 : decode cX8_copy 21 = .ok (.getfield 24, 3) := by decide +kernel
theorem dX8_copy_24 : decode cX8_copy 24 = .ok (.iload_n 1, 1) := by decide +kernel
theorem dX8_copy_25 : decode cX8_copy 25 = .ok (.aaload, 1) := by decide +kernel
theorem dX8_copy_26 : decode cX8_copy 26 = .ok (.astore 6, 2) := by decide +kernel
theorem dX8_copy_28 : decode cX8_copy 28 = .ok (.aload_n 0, 1) := by decide +kernel
theorem dX8_copy_29 : decode cX8_copy 29 = .ok (.getfield 24, 3) := by decide +kernel
theorem dX8_copy_32 : decode cX8_copy 32 = .ok (.iload_n 2, 1) := by decide +kernel
theorem dX8_copy_33 : decode cX8_copy 33 = .ok (.aaload, 1) := by decide +kernel
theorem dX8_copy_34 : decode cX8_copy 34 = .ok (.astore 7, 2) := by decide +kernel
theorem dX8_copy_36 : decode cX8_copy 36 = .ok (.aload 6, 2) := by decide +kernel
theorem dX8_copy_38 : decode cX8_copy 38 = .ok (.invokevirtual 91, 3) := by decide +kernel
theorem dX8_copy_41 : decode cX8_copy 41 = .ok (.ifCond .ne 21, 3) := by decide +kernel
theorem dX8_copy_44 : decode cX8_copy 44 = .ok (.aload 7, 2) := by decide +kernel
theorem dX8_copy_46 : decode cX8_copy 46 = .ok (.invokevirtual 91, 3) := by decide +kernel
theorem dX8_copy_49 : decode cX8_copy 49 = .ok (.ifCond .ne 13, 3) := by decide +kernel
theorem dX8_copy_52 : decode cX8_copy 52 = .ok (.aload 6, 2) := by decide +kernel
theorem dX8_copy_54 : decode cX8_copy 54 = .ok (.aload 7, 2) := by decide +kernel
theorem dX8_copy_56 : decode cX8_copy 56 = .ok (.invokestatic 95, 3) := by decide +kernel
theorem dX8_copy_59 : decode cX8_copy 59 = .ok (.ifCond .eq 9, 3) := by decide +kernel
theorem dX8_copy_62 : decode cX8_copy 62 = .ok (.aload_n 0, 1) := by decide +kernel
theorem dX8_copy_63 : decode cX8_copy 63 = .ok (.iconst 2, 1) := by decide +kernel
theorem dX8_copy_64 : decode cX8_copy 64 = .ok (.invokevirtual 73, 3) := by decide +kernel
theorem dX8_copy_67 : decode cX8_copy 67 = .ok (.ireturn, 1) := by decide +kernel
theorem dX8_copy_68 : decode cX8_copy 68 = .ok (.aload 6, 2) := by decide +kernel
theorem dX8_copy_70 : decode cX8_copy 70 = .ok (.invokevirtual 99, 3) := by decide +kernel
theorem dX8_copy_73 : decode cX8_copy 73 = .ok (.ifCond .eq 11, 3) := by decide +kernel
theorem dX8_copy_76 : decode cX8_copy 76 = .ok (.aload 7, 2) := by decide +kernel
theorem dX8_copy_78 : decode cX8_copy 78 = .ok (.invokevirtual 99, 3) := by decide +kernel
theorem dX8_copy_81 : decode cX8_copy 81 = .ok (.ifCond .ne 9, 3) := by decide +kernel
theorem dX8_copy_84 : decode cX8_copy 84 = .ok (.aload_n 0, 1) := by decide +kernel
theorem dX8_copy_85 : decode cX8_copy 85 = .ok (.iconst 3, 1) := by decide +kernel
theorem dX8_copy_86 : decode cX8_copy 86 = .ok (.invokevirtual 73, 3) := by decide +kernel
theorem dX8_copy_89 : decode cX8_copy 89 = .ok (.ireturn, 1) := by decide +kernel
theorem dX8_copy_90 : decode cX8_copy 90 = .ok (.iload 5, 2) := by decide +kernel
theorem dX8_copy_92 : decode cX8_copy 92 = .ok (.ifCond .ge 9, 3) := by decide +kernel
theorem dX8_copy_95 : decode cX8_copy 95 = .ok (.aload_n 0, 1) := by decide +kernel
theorem dX8_copy_96 : decode cX8_copy 96 = .ok (.iconst 4, 1) := by decide +kernel
theorem dX8_copy_97 : decode cX8_copy 97 = .ok (.invokevirtual 73, 3) := by decide +kernel
theorem dX8_copy_100 : decode cX8_copy 100 = .ok (.ireturn, 1) := by decide +kernel
theorem dX8_copy_101 : decode cX8_copy 101 = .ok (.aload 6, 2) := by decide +kernel
theorem dX8_copy_103 : decode cX8_copy 103 = .ok (.iload_n 3, 1) := by decide +kernel
theorem dX8_copy_104 : decode cX8_copy 104 = .ok (.iload 5, 2) := by decide +kernel
theorem dX8_copy_106 : decode cX8_copy 106 = .ok (.invokevirtual 102, 3) := by decide +kernel
theorem dX8_copy_109 : decode cX8_copy 109 = .ok (.ifCond .eq 15, 3) := by decide +kernel
theorem dX8_copy_112 : decode cX8_copy 112 = .ok (.aload 7, 2) := by decide +kernel
theorem dX8_copy_114 : decode cX8_copy 114 = .ok (.iload 4, 2) := by decide +kernel
theorem dX8_copy_116 : decode cX8_copy 116 = .ok (.iload 5, 2) := by decide +kernel
theorem dX8_copy_118 : decode cX8_copy 118 = .ok (.invokevirtual 102, 3) := by decide +kernel
theorem dX8_copy_121 : decode cX8_copy 121 = .ok (.ifCond .ne 9, 3) := by decide +kernel
theorem dX8_copy_124 : decode cX8_copy 124 = .ok (.aload_n 0, 1) := by decide +kernel
theorem dX8_copy_125 : decode cX8_copy 125 = .ok (.iconst 5, 1) := by decide +kernel
theorem dX8_copy_126 : decode cX8_copy 126 = .ok (.invokevirtual 73, 3) := by decide +kernel
theorem dX8_copy_129 : decode cX8_copy 129 = .ok (.ireturn, 1) := by decide +kernel
theorem dX8_copy_130 : decode cX8_copy 130 = .ok (.aload 6, 2) := by decide +kernel
theorem dX8_copy_132 : decode cX8_copy 132 = .ok (.getfield 106, 3) := by decide +kernel
theorem dX8_copy_135 : decode cX8_copy 135 = .ok (.iload_n 3, 1) := by decide +kernel
theorem dX8_copy_136 : decode cX8_copy 136 = .ok (.aload 7, 2) := by decide +kernel
theorem dX8_copy_138 : decode cX8_copy 138 = .ok (.getfield 106, 3) := by decide +kernel
theorem dX8_copy_141 : decode cX8_copy 141 = .ok (.iload 4, 2) := by decide +kernel
theorem dX8_copy_143 : decode cX8_copy 143 = .ok (.iload 5, 2) := by decide +kernel
theorem dX8_copy_145 : decode cX8_copy 145 = .ok (.invokestatic 110, 3) := by decide +kernel
theorem dX8_copy_148 : decode cX8_copy 148 = .ok (.iconst 1, 1) := by decide +kernel
theorem dX8_copy_149 : decode cX8_copy 149 = .ok (.ireturn, 1) := by decide +kernel
theorem dX8_element_0 : decode cX8_element 0 = .ok (.iload_n 1, 1) := by decide +kernel
theorem dX8_element_1 : decode cX8_element 1 = .ok (.invokestatic 69, 3) := by decide +kernel
theorem dX8_element_4 : decode cX8_element 4 = .ok (.ifCond .eq 16, 3) := by decide +kernel
theorem dX8_element_7 : decode cX8_element 7 = .ok (.aload_n 0, 1) := by decide +kernel
theorem dX8_element_8 : decode cX8_element 8 = .ok (.getfield 24, 3) := by decide +kernel
theorem dX8_element_11 : decode cX8_element 11 = .ok (.iload_n 1, 1) := by decide +kernel
theorem dX8_element_12 : decode cX8_element 12 = .ok (.aaload, 1) := by decide +kernel
theorem dX8_element_13 : decode cX8_element 13 = .ok (.iload_n 2, 1) := by decide +kernel
theorem dX8_element_14 : decode cX8_element 14 = .ok (.invokevirtual 116, 3) := by decide +kernel
theorem dX8_element_17 : decode cX8_element 17 = .ok (.goto 4, 3) := by decide +kernel
theorem dX8_element_20 : decode cX8_element 20 = .ok (.lconst 0, 1) := by decide +kernel
theorem dX8_element_21 : decode cX8_element 21 = .ok (.lreturn, 1) := by decide +kernel
theorem dX8_show_0 : decode cX8_show 0 = .ok (.iload_n 1, 1) := by decide +kernel
theorem dX8_show_1 : decode cX8_show 1 = .ok (.invokestatic 69, 3) := by decide +kernel
theorem dX8_show_4 : decode cX8_show 4 = .ok (.ifCond .eq 19, 3) := by decide +kernel
theorem dX8_show_7 : decode cX8_show 7 = .ok (.iload_n 2, 1) := by decide +kernel
theorem dX8_show_8 : decode cX8_show 8 = .ok (.iconst (-1), 1) := by decide +kernel
theorem dX8_show_9 : decode cX8_show 9 = .ok (.if_icmp .eq 20, 3) := by decide +kernel
theorem dX8_show_12 : decode cX8_show 12 = .ok (.aload_n 0, 1) := by decide +kernel
theorem dX8_show_13 : decode cX8_show 13 = .ok (.getfield 10, 3) := by decide +kernel
theorem dX8_show_16 : decode cX8_show 16 = .ok (.iload_n 2, 1) := by decide +kernel
theorem dX8_show_17 : decode cX8_show 17 = .ok (.invokevirtual 120, 3) := by decide +kernel
theorem dX8_show_20 : decode cX8_show 20 = .ok (.ifCond .ne 9, 3) := by decide +kernel
theorem dX8_show_23 : decode cX8_show 23 = .ok (.aload_n 0, 1) := by decide +kernel
theorem dX8_show_24 : decode cX8_show 24 = .ok (.iconst 1, 1) := by decide +kernel
theorem dX8_show_25 : decode cX8_show 25 = .ok (.invokevirtual 73, 3) := by decide +kernel
theorem dX8_show_28 : decode cX8_show 28 = .ok (.ireturn, 1) := by decide +kernel
theorem dX8_show_29 : decode cX8_show 29 = .ok (.aload_n 0, 1) := by decide +kernel
theorem dX8_show_30 : decode cX8_show 30 = .ok (.getfield 24, 3) := by decide +kernel
theorem dX8_show_33 : decode cX8_show 33 = .ok (.iload_n 1, 1) := by decide +kernel
theorem dX8_show_34 : decode cX8_show 34 = .ok (.aaload, 1) := by decide +kernel
theorem dX8_show_35 : decode cX8_show 35 = .ok (.iload_n 2, 1) := by decide +kernel
theorem dX8_show_36 : decode cX8_show 36 = .ok (.invokevirtual 123, 3) := by decide +kernel
theorem dX8_show_39 : decode cX8_show 39 = .ok (.iload_n 2, 1) := by decide +kernel
theorem dX8_show_40 : decode cX8_show 40 = .ok (.iconst (-1), 1) := by decide +kernel
theorem dX8_show_41 : decode cX8_show 41 = .ok (.if_icmp .ne 7, 3) := by decide +kernel
theorem dX8_show_44 : decode cX8_show 44 = .ok (.iconst 0, 1) := by decide +kernel
theorem dX8_show_45 : decode cX8_show 45 = .ok (.goto 4, 3) := by decide +kernel
theorem dX8_show_48 : decode cX8_show 48 = .ok (.iconst 1, 1) := by decide +kernel
theorem dX8_show_49 : decode cX8_show 49 = .ok (.ireturn, 1) := by decide +kernel
theorem dX8_holds_0 : decode cX8_holds 0 = .ok (.iload_n 1, 1) := by decide +kernel
theorem dX8_holds_1 : decode cX8_holds 1 = .ok (.invokestatic 69, 3) := by decide +kernel
theorem dX8_holds_4 : decode cX8_holds 4 = .ok (.ifCond .eq 15, 3) := by decide +kernel
theorem dX8_holds_7 : decode cX8_holds 7 = .ok (.aload_n 0, 1) := by decide +kernel
theorem dX8_holds_8 : decode cX8_holds 8 = .ok (.getfield 24, 3) := by decide +kernel
theorem dX8_holds_11 : decode cX8_holds 11 = .ok (.iload_n 1, 1) := by decide +kernel
theorem dX8_holds_12 : decode cX8_holds 12 = .ok (.aaload, 1) := by decide +kernel
theorem dX8_holds_13 : decode cX8_holds 13 = .ok (.getfield 127, 3) := by decide +kernel
theorem dX8_holds_16 : decode cX8_holds 16 = .ok (.goto 4, 3) := by decide +kernel
theorem dX8_holds_19 : decode cX8_holds 19 = .ok (.iconst (-1), 1) := by decide +kernel
theorem dX8_holds_20 : decode cX8_holds 20 = .ok (.ireturn, 1) := by decide +kernel
theorem dX8_says_0 : decode cX8_says 0 = .ok (.iload_n 1, 1) := by decide +kernel
theorem dX8_says_1 : decode cX8_says 1 = .ok (.invokestatic 69, 3) := by decide +kernel
theorem dX8_says_4 : decode cX8_says 4 = .ok (.ifCond .eq 10, 3) := by decide +kernel
theorem dX8_says_7 : decode cX8_says 7 = .ok (.iload_n 2, 1) := by decide +kernel
theorem dX8_says_8 : decode cX8_says 8 = .ok (.invokestatic 130, 3) := by decide +kernel
theorem dX8_says_11 : decode cX8_says 11 = .ok (.ifCond .ne 9, 3) := by decide +kernel
theorem dX8_says_14 : decode cX8_says 14 = .ok (.aload_n 0, 1) := by decide +kernel
theorem dX8_says_15 : decode cX8_says 15 = .ok (.iconst 1, 1) := by decide +kernel
theorem dX8_says_16 : decode cX8_says 16 = .ok (.invokevirtual 73, 3) := by decide +kernel
theorem dX8_says_19 : decode cX8_says 19 = .ok (.ireturn, 1) := by decide +kernel
theorem dX8_says_20 : decode cX8_says 20 = .ok (.aload_n 0, 1) := by decide +kernel
theorem dX8_says_21 : decode cX8_says 21 = .ok (.getfield 24, 3) := by decide +kernel
theorem dX8_says_24 : decode cX8_says 24 = .ok (.iload_n 1, 1) := by decide +kernel
theorem dX8_says_25 : decode cX8_says 25 = .ok (.aaload, 1) := by decide +kernel
theorem dX8_says_26 : decode cX8_says 26 = .ok (.astore_n 3, 1) := by decide +kernel
theorem dX8_says_27 : decode cX8_says 27 = .ok (.aload_n 3, 1) := by decide +kernel
theorem dX8_says_28 : decode cX8_says 28 = .ok (.invokevirtual 99, 3) := by decide +kernel
theorem dX8_says_31 : decode cX8_says 31 = .ok (.ifCond .eq 9, 3) := by decide +kernel
theorem dX8_says_34 : decode cX8_says 34 = .ok (.aload_n 0, 1) := by decide +kernel
theorem dX8_says_35 : decode cX8_says 35 = .ok (.iconst 2, 1) := by decide +kernel
theorem dX8_says_36 : decode cX8_says 36 = .ok (.invokevirtual 73, 3) := by decide +kernel
theorem dX8_says_39 : decode cX8_says 39 = .ok (.ireturn, 1) := by decide +kernel
theorem dX8_says_40 : decode cX8_says 40 = .ok (.aload_n 3, 1) := by decide +kernel
theorem dX8_says_41 : decode cX8_says 41 = .ok (.invokevirtual 91, 3) := by decide +kernel
theorem dX8_says_44 : decode cX8_says 44 = .ok (.ifCond .eq 17, 3) := by decide +kernel
theorem dX8_says_47 : decode cX8_says 47 = .ok (.aload_n 0, 1) := by decide +kernel
theorem dX8_says_48 : decode cX8_says 48 = .ok (.getfield 10, 3) := by decide +kernel
theorem dX8_says_51 : decode cX8_says 51 = .ok (.aload_n 3, 1) := by decide +kernel
theorem dX8_says_52 : decode cX8_says 52 = .ok (.getfield 127, 3) := by decide +kernel
theorem dX8_says_55 : decode cX8_says 55 = .ok (.invokevirtual 120, 3) := by decide +kernel
theorem dX8_says_58 : decode cX8_says 58 = .ok (.ifCond .ne 9, 3) := by decide +kernel
theorem dX8_says_61 : decode cX8_says 61 = .ok (.aload_n 0, 1) := by decide +kernel
theorem dX8_says_62 : decode cX8_says 62 = .ok (.iconst 3, 1) := by decide +kernel
theorem dX8_says_63 : decode cX8_says 63 = .ok (.invokevirtual 73, 3) := by decide +kernel
theorem dX8_says_66 : decode cX8_says 66 = .ok (.ireturn, 1) := by decide +kernel
theorem dX8_says_67 : decode cX8_says 67 = .ok (.aload_n 0, 1) := by decide +kernel
theorem dX8_says_68 : decode cX8_says 68 = .ok (.getfield 10, 3) := by decide +kernel
theorem dX8_says_71 : decode cX8_says 71 = .ok (.getfield 135, 3) := by decide +kernel
theorem dX8_says_74 : decode cX8_says 74 = .ok (.aload_n 3, 1) := by decide +kernel
theorem dX8_says_75 : decode cX8_says 75 = .ok (.getfield 127, 3) := by decide +kernel
theorem dX8_says_78 : decode cX8_says 78 = .ok (.iaload, 1) := by decide +kernel
theorem dX8_says_79 : decode cX8_says 79 = .ok (.iload_n 2, 1) := by decide +kernel
theorem dX8_says_80 : decode cX8_says 80 = .ok (.invokestatic 138, 3) := by decide +kernel
theorem dX8_says_83 : decode cX8_says 83 = .ok (.ifCond .ne 9, 3) := by decide +kernel
theorem dX8_says_86 : decode cX8_says 86 = .ok (.aload_n 0, 1) := by decide +kernel
theorem dX8_says_87 : decode cX8_says 87 = .ok (.iconst 2, 1) := by decide +kernel
theorem dX8_says_88 : decode cX8_says 88 = .ok (.invokevirtual 73, 3) := by decide +kernel
theorem dX8_says_91 : decode cX8_says 91 = .ok (.ireturn, 1) := by decide +kernel
theorem dX8_says_92 : decode cX8_says 92 = .ok (.aload_n 0, 1) := by decide +kernel
theorem dX8_says_93 : decode cX8_says 93 = .ok (.aload_n 3, 1) := by decide +kernel
theorem dX8_says_94 : decode cX8_says 94 = .ok (.getfield 127, 3) := by decide +kernel
theorem dX8_says_97 : decode cX8_says 97 = .ok (.iload_n 2, 1) := by decide +kernel
theorem dX8_says_98 : decode cX8_says 98 = .ok (.invokevirtual 141, 3) := by decide +kernel
theorem dX8_says_101 : decode cX8_says 101 = .ok (.ireturn, 1) := by decide +kernel
theorem dX8_sayingOf_0 : decode cX8_sayingOf 0 = .ok (.iload_n 2, 1) := by decide +kernel
theorem dX8_sayingOf_1 : decode cX8_sayingOf 1 = .ok (.tableswitch 69 0 5 #[39, 69, 49, 69, 59, 49], 39) := by decide +kernel
theorem dX8_sayingOf_40 : decode cX8_sayingOf 40 = .ok (.aload_n 0, 1) := by decide +kernel
theorem dX8_sayingOf_41 : decode cX8_sayingOf 41 = .ok (.getfield 10, 3) := by decide +kernel
theorem dX8_sayingOf_44 : decode cX8_sayingOf 44 = .ok (.getfield 145, 3) := by decide +kernel
theorem dX8_sayingOf_47 : decode cX8_sayingOf 47 = .ok (.iload_n 1, 1) := by decide +kernel
theorem dX8_sayingOf_48 : decode cX8_sayingOf 48 = .ok (.iaload, 1) := by decide +kernel
theorem dX8_sayingOf_49 : decode cX8_sayingOf 49 = .ok (.ireturn, 1) := by decide +kernel
theorem dX8_sayingOf_50 : decode cX8_sayingOf 50 = .ok (.aload_n 0, 1) := by decide +kernel
theorem dX8_sayingOf_51 : decode cX8_sayingOf 51 = .ok (.getfield 10, 3) := by decide +kernel
theorem dX8_sayingOf_54 : decode cX8_sayingOf 54 = .ok (.getfield 148, 3) := by decide +kernel
theorem dX8_sayingOf_57 : decode cX8_sayingOf 57 = .ok (.iload_n 1, 1) := by decide +kernel
theorem dX8_sayingOf_58 : decode cX8_sayingOf 58 = .ok (.iaload, 1) := by decide +kernel
theorem dX8_sayingOf_59 : decode cX8_sayingOf 59 = .ok (.ireturn, 1) := by decide +kernel
theorem dX8_sayingOf_60 : decode cX8_sayingOf 60 = .ok (.aload_n 0, 1) := by decide +kernel
theorem dX8_sayingOf_61 : decode cX8_sayingOf 61 = .ok (.getfield 10, 3) := by decide +kernel
theorem dX8_sayingOf_64 : decode cX8_sayingOf 64 = .ok (.getfield 151, 3) := by decide +kernel
theorem dX8_sayingOf_67 : decode cX8_sayingOf 67 = .ok (.iload_n 1, 1) := by decide +kernel
theorem dX8_sayingOf_68 : decode cX8_sayingOf 68 = .ok (.iaload, 1) := by decide +kernel
theorem dX8_sayingOf_69 : decode cX8_sayingOf 69 = .ok (.ireturn, 1) := by decide +kernel
theorem dX8_sayingOf_70 : decode cX8_sayingOf 70 = .ok (.aload_n 0, 1) := by decide +kernel
theorem dX8_sayingOf_71 : decode cX8_sayingOf 71 = .ok (.getfield 10, 3) := by decide +kernel
theorem dX8_sayingOf_74 : decode cX8_sayingOf 74 = .ok (.iload_n 1, 1) := by decide +kernel
theorem dX8_sayingOf_75 : decode cX8_sayingOf 75 = .ok (.invokevirtual 154, 3) := by decide +kernel
theorem dX8_sayingOf_78 : decode cX8_sayingOf 78 = .ok (.ireturn, 1) := by decide +kernel
theorem dX8_person_0 : decode cX8_person 0 = .ok (.iload_n 1, 1) := by decide +kernel
theorem dX8_person_1 : decode cX8_person 1 = .ok (.invokestatic 130, 3) := by decide +kernel
theorem dX8_person_4 : decode cX8_person 4 = .ok (.ifCond .ne 9, 3) := by decide +kernel
theorem dX8_person_7 : decode cX8_person 7 = .ok (.aload_n 0, 1) := by decide +kernel
theorem dX8_person_8 : decode cX8_person 8 = .ok (.iconst 1, 1) := by decide +kernel
theorem dX8_person_9 : decode cX8_person 9 = .ok (.invokevirtual 73, 3) := by decide +kernel
theorem dX8_person_12 : decode cX8_person 12 = .ok (.ireturn, 1) := by decide +kernel
theorem dX8_person_13 : decode cX8_person 13 = .ok (.iload_n 2, 1) := by decide +kernel
theorem dX8_person_14 : decode cX8_person 14 = .ok (.iconst 0, 1) := by decide +kernel
theorem dX8_person_15 : decode cX8_person 15 = .ok (.bipush 9, 2) := by decide +kernel
theorem dX8_person_17 : decode cX8_person 17 = .ok (.invokestatic 157, 3) := by decide +kernel
theorem dX8_person_20 : decode cX8_person 20 = .ok (.ifCond .eq 35, 3) := by decide +kernel
theorem dX8_person_23 : decode cX8_person 23 = .ok (.iload_n 3, 1) := by decide +kernel
theorem dX8_person_24 : decode cX8_person 24 = .ok (.iconst 0, 1) := by decide +kernel
theorem dX8_person_25 : decode cX8_person 25 = .ok (.bipush 20, 2) := by decide +kernel
theorem dX8_person_27 : decode cX8_person 27 = .ok (.invokestatic 157, 3) := by decide +kernel
theorem dX8_person_30 : decode cX8_person 30 = .ok (.ifCond .eq 25, 3) := by decide +kernel
theorem dX8_person_33 : decode cX8_person 33 = .ok (.iload 4, 2) := by decide +kernel
theorem dX8_person_35 : decode cX8_person 35 = .ok (.iconst 1, 1) := by decide +kernel
theorem dX8_person_36 : decode cX8_person 36 = .ok (.iconst 4, 1) := by decide +kernel
theorem dX8_person_37 : decode cX8_person 37 = .ok (.invokestatic 157, 3) := by decide +kernel
theorem dX8_person_40 : decode cX8_person 40 = .ok (.ifCond .eq 15, 3) := by decide +kernel
theorem dX8_person_43 : decode cX8_person 43 = .ok (.aload_n 0, 1) := by decide +kernel
theorem dX8_person_44 : decode cX8_person 44 = .ok (.getfield 10, 3) := by decide +kernel
theorem dX8_person_47 : decode cX8_person 47 = .ok (.iload 5, 2) := by decide +kernel
theorem dX8_person_49 : decode cX8_person 49 = .ok (.invokevirtual 161, 3) := by decide +kernel
theorem dX8_person_52 : decode cX8_person 52 = .ok (.ifCond .ne 10, 3) := by decide +kernel
theorem dX8_person_55 : decode cX8_person 55 = .ok (.aload_n 0, 1) := by decide +kernel
theorem dX8_person_56 : decode cX8_person 56 = .ok (.bipush 6, 2) := by decide +kernel
theorem dX8_person_58 : decode cX8_person 58 = .ok (.invokevirtual 73, 3) := by decide +kernel
theorem dX8_person_61 : decode cX8_person 61 = .ok (.ireturn, 1) := by decide +kernel
theorem dX8_person_62 : decode cX8_person 62 = .ok (.aload_n 0, 1) := by decide +kernel
theorem dX8_person_63 : decode cX8_person 63 = .ok (.getfield 10, 3) := by decide +kernel
theorem dX8_person_66 : decode cX8_person 66 = .ok (.invokevirtual 164, 3) := by decide +kernel
theorem dX8_person_69 : decode cX8_person 69 = .ok (.ifCond .ne 10, 3) := by decide +kernel
theorem dX8_person_72 : decode cX8_person 72 = .ok (.aload_n 0, 1) := by decide +kernel
theorem dX8_person_73 : decode cX8_person 73 = .ok (.bipush 7, 2) := by decide +kernel
theorem dX8_person_75 : decode cX8_person 75 = .ok (.invokevirtual 73, 3) := by decide +kernel
theorem dX8_person_78 : decode cX8_person 78 = .ok (.ireturn, 1) := by decide +kernel
theorem dX8_person_79 : decode cX8_person 79 = .ok (.aload_n 0, 1) := by decide +kernel
theorem dX8_person_80 : decode cX8_person 80 = .ok (.getfield 10, 3) := by decide +kernel
theorem dX8_person_83 : decode cX8_person 83 = .ok (.iload_n 1, 1) := by decide +kernel
theorem dX8_person_84 : decode cX8_person 84 = .ok (.iload_n 2, 1) := by decide +kernel
theorem dX8_person_85 : decode cX8_person 85 = .ok (.iload_n 3, 1) := by decide +kernel
theorem dX8_person_86 : decode cX8_person 86 = .ok (.iload 4, 2) := by decide +kernel
theorem dX8_person_88 : decode cX8_person 88 = .ok (.iload 5, 2) := by decide +kernel
theorem dX8_person_90 : decode cX8_person 90 = .ok (.invokevirtual 167, 3) := by decide +kernel
theorem dX8_person_93 : decode cX8_person 93 = .ok (.ireturn, 1) := by decide +kernel
theorem dX8_fence_0 : decode cX8_fence 0 = .ok (.aload_n 0, 1) := by decide +kernel
theorem dX8_fence_1 : decode cX8_fence 1 = .ok (.getfield 10, 3) := by decide +kernel
theorem dX8_fence_4 : decode cX8_fence 4 = .ok (.iload_n 1, 1) := by decide +kernel
theorem dX8_fence_5 : decode cX8_fence 5 = .ok (.invokevirtual 171, 3) := by decide +kernel
theorem dX8_fence_8 : decode cX8_fence 8 = .ok (.ifCond .ne 10, 3) := by decide +kernel
theorem dX8_fence_11 : decode cX8_fence 11 = .ok (.aload_n 0, 1) := by decide +kernel
theorem dX8_fence_12 : decode cX8_fence 12 = .ok (.bipush 6, 2) := by decide +kernel
theorem dX8_fence_14 : decode cX8_fence 14 = .ok (.invokevirtual 73, 3) := by decide +kernel
theorem dX8_fence_17 : decode cX8_fence 17 = .ok (.ireturn, 1) := by decide +kernel
theorem dX8_fence_18 : decode cX8_fence 18 = .ok (.aload_n 0, 1) := by decide +kernel
theorem dX8_fence_19 : decode cX8_fence 19 = .ok (.getfield 10, 3) := by decide +kernel
theorem dX8_fence_22 : decode cX8_fence 22 = .ok (.iload_n 1, 1) := by decide +kernel
theorem dX8_fence_23 : decode cX8_fence 23 = .ok (.invokevirtual 174, 3) := by decide +kernel
theorem dX8_fence_26 : decode cX8_fence 26 = .ok (.ifCond .eq 7, 3) := by decide +kernel
theorem dX8_fence_29 : decode cX8_fence 29 = .ok (.iconst 1, 1) := by decide +kernel
theorem dX8_fence_30 : decode cX8_fence 30 = .ok (.goto 4, 3) := by decide +kernel
theorem dX8_fence_33 : decode cX8_fence 33 = .ok (.iconst 0, 1) := by decide +kernel
theorem dX8_fence_34 : decode cX8_fence 34 = .ok (.istore_n 3, 1) := by decide +kernel
theorem dX8_fence_35 : decode cX8_fence 35 = .ok (.aload_n 0, 1) := by decide +kernel
theorem dX8_fence_36 : decode cX8_fence 36 = .ok (.getfield 10, 3) := by decide +kernel
theorem dX8_fence_39 : decode cX8_fence 39 = .ok (.iload_n 1, 1) := by decide +kernel
theorem dX8_fence_40 : decode cX8_fence 40 = .ok (.iload_n 2, 1) := by decide +kernel
theorem dX8_fence_41 : decode cX8_fence 41 = .ok (.invokevirtual 177, 3) := by decide +kernel
theorem dX8_fence_44 : decode cX8_fence 44 = .ok (.iload_n 3, 1) := by decide +kernel
theorem dX8_fence_45 : decode cX8_fence 45 = .ok (.ireturn, 1) := by decide +kernel
theorem dX8_tell_0 : decode cX8_tell 0 = .ok (.aload_n 0, 1) := by decide +kernel
theorem dX8_tell_1 : decode cX8_tell 1 = .ok (.getfield 10, 3) := by decide +kernel
theorem dX8_tell_4 : decode cX8_tell 4 = .ok (.iload_n 1, 1) := by decide +kernel
theorem dX8_tell_5 : decode cX8_tell 5 = .ok (.invokevirtual 120, 3) := by decide +kernel
theorem dX8_tell_8 : decode cX8_tell 8 = .ok (.ifCond .ne 9, 3) := by decide +kernel
theorem dX8_tell_11 : decode cX8_tell 11 = .ok (.aload_n 0, 1) := by decide +kernel
theorem dX8_tell_12 : decode cX8_tell 12 = .ok (.iconst 1, 1) := by decide +kernel
theorem dX8_tell_13 : decode cX8_tell 13 = .ok (.invokevirtual 73, 3) := by decide +kernel
theorem dX8_tell_16 : decode cX8_tell 16 = .ok (.ireturn, 1) := by decide +kernel
theorem dX8_tell_17 : decode cX8_tell 17 = .ok (.iload_n 2, 1) := by decide +kernel
theorem dX8_tell_18 : decode cX8_tell 18 = .ok (.ifCond .ne 26, 3) := by decide +kernel
theorem dX8_tell_21 : decode cX8_tell 21 = .ok (.iload_n 3, 1) := by decide +kernel
theorem dX8_tell_22 : decode cX8_tell 22 = .ok (.iconst 0, 1) := by decide +kernel
theorem dX8_tell_23 : decode cX8_tell 23 = .ok (.bipush 20, 2) := by decide +kernel
theorem dX8_tell_25 : decode cX8_tell 25 = .ok (.invokestatic 157, 3) := by decide +kernel
theorem dX8_tell_28 : decode cX8_tell 28 = .ok (.ifCond .eq 16, 3) := by decide +kernel
theorem dX8_tell_31 : decode cX8_tell 31 = .ok (.aload_n 0, 1) := by decide +kernel
theorem dX8_tell_32 : decode cX8_tell 32 = .ok (.getfield 10, 3) := by decide +kernel
theorem dX8_tell_35 : decode cX8_tell 35 = .ok (.getfield 151, 3) := by decide +kernel
theorem dX8_tell_38 : decode cX8_tell 38 = .ok (.iload_n 1, 1) := by decide +kernel
theorem dX8_tell_39 : decode cX8_tell 39 = .ok (.iload_n 3, 1) := by decide +kernel
theorem dX8_tell_40 : decode cX8_tell 40 = .ok (.invokestatic 181, 3) := by decide +kernel
theorem dX8_tell_43 : decode cX8_tell 43 = .ok (.ireturn, 1) := by decide +kernel
theorem dX8_tell_44 : decode cX8_tell 44 = .ok (.iload_n 2, 1) := by decide +kernel
theorem dX8_tell_45 : decode cX8_tell 45 = .ok (.iconst 1, 1) := by decide +kernel
theorem dX8_tell_46 : decode cX8_tell 46 = .ok (.if_icmp .ne 25, 3) := by decide +kernel
theorem dX8_tell_49 : decode cX8_tell 49 = .ok (.iload_n 3, 1) := by decide +kernel
theorem dX8_tell_50 : decode cX8_tell 50 = .ok (.iconst 1, 1) := by decide +kernel
theorem dX8_tell_51 : decode cX8_tell 51 = .ok (.iconst 4, 1) := by decide +kernel
theorem dX8_tell_52 : decode cX8_tell 52 = .ok (.invokestatic 157, 3) := by decide +kernel
theorem dX8_tell_55 : decode cX8_tell 55 = .ok (.ifCond .eq 16, 3) := by decide +kernel
theorem dX8_tell_58 : decode cX8_tell 58 = .ok (.aload_n 0, 1) := by decide +kernel
theorem dX8_tell_59 : decode cX8_tell 59 = .ok (.getfield 10, 3) := by decide +kernel
theorem dX8_tell_62 : decode cX8_tell 62 = .ok (.getfield 148, 3) := by decide +kernel
theorem dX8_tell_65 : decode cX8_tell 65 = .ok (.iload_n 1, 1) := by decide +kernel
theorem dX8_tell_66 : decode cX8_tell 66 = .ok (.iload_n 3, 1) := by decide +kernel
theorem dX8_tell_67 : decode cX8_tell 67 = .ok (.invokestatic 181, 3) := by decide +kernel
theorem dX8_tell_70 : decode cX8_tell 70 = .ok (.ireturn, 1) := by decide +kernel
theorem dX8_tell_71 : decode cX8_tell 71 = .ok (.iload_n 2, 1) := by decide +kernel
theorem dX8_tell_72 : decode cX8_tell 72 = .ok (.iconst 2, 1) := by decide +kernel
theorem dX8_tell_73 : decode cX8_tell 73 = .ok (.if_icmp .ne 27, 3) := by decide +kernel
theorem dX8_tell_76 : decode cX8_tell 76 = .ok (.aload_n 0, 1) := by decide +kernel
theorem dX8_tell_77 : decode cX8_tell 77 = .ok (.getfield 10, 3) := by decide +kernel
theorem dX8_tell_80 : decode cX8_tell 80 = .ok (.iload_n 3, 1) := by decide +kernel
theorem dX8_tell_81 : decode cX8_tell 81 = .ok (.invokevirtual 161, 3) := by decide +kernel
theorem dX8_tell_84 : decode cX8_tell 84 = .ok (.ifCond .eq 16, 3) := by decide +kernel
theorem dX8_tell_87 : decode cX8_tell 87 = .ok (.aload_n 0, 1) := by decide +kernel
theorem dX8_tell_88 : decode cX8_tell 88 = .ok (.getfield 10, 3) := by decide +kernel
theorem dX8_tell_91 : decode cX8_tell 91 = .ok (.getfield 145, 3) := by decide +kernel
theorem dX8_tell_94 : decode cX8_tell 94 = .ok (.iload_n 1, 1) := by decide +kernel
theorem dX8_tell_95 : decode cX8_tell 95 = .ok (.iload_n 3, 1) := by decide +kernel
theorem dX8_tell_96 : decode cX8_tell 96 = .ok (.invokestatic 181, 3) := by decide +kernel
theorem dX8_tell_99 : decode cX8_tell 99 = .ok (.ireturn, 1) := by decide +kernel
theorem dX8_tell_100 : decode cX8_tell 100 = .ok (.aload_n 0, 1) := by decide +kernel
theorem dX8_tell_101 : decode cX8_tell 101 = .ok (.bipush 6, 2) := by decide +kernel
theorem dX8_tell_103 : decode cX8_tell 103 = .ok (.invokevirtual 73, 3) := by decide +kernel
theorem dX8_tell_106 : decode cX8_tell 106 = .ok (.ireturn, 1) := by decide +kernel
theorem dX8_exchange_0 : decode cX8_exchange 0 = .ok (.aload_n 0, 1) := by decide +kernel
theorem dX8_exchange_1 : decode cX8_exchange 1 = .ok (.iload_n 1, 1) := by decide +kernel
theorem dX8_exchange_2 : decode cX8_exchange 2 = .ok (.iaload, 1) := by decide +kernel
theorem dX8_exchange_3 : decode cX8_exchange 3 = .ok (.istore_n 3, 1) := by decide +kernel
theorem dX8_exchange_4 : decode cX8_exchange 4 = .ok (.aload_n 0, 1) := by decide +kernel
theorem dX8_exchange_5 : decode cX8_exchange 5 = .ok (.iload_n 1, 1) := by decide +kernel
theorem dX8_exchange_6 : decode cX8_exchange 6 = .ok (.iload_n 2, 1) := by decide +kernel
theorem dX8_exchange_7 : decode cX8_exchange 7 = .ok (.iastore, 1) := by decide +kernel
theorem dX8_exchange_8 : decode cX8_exchange 8 = .ok (.iload_n 3, 1) := by decide +kernel
theorem dX8_exchange_9 : decode cX8_exchange 9 = .ok (.ireturn, 1) := by decide +kernel
theorem dX8_ask_0 : decode cX8_ask 0 = .ok (.iload_n 1, 1) := by decide +kernel
theorem dX8_ask_1 : decode cX8_ask 1 = .ok (.ifCond .ne 30, 3) := by decide +kernel
theorem dX8_ask_4 : decode cX8_ask 4 = .ok (.iload_n 2, 1) := by decide +kernel
theorem dX8_ask_5 : decode cX8_ask 5 = .ok (.iconst 1, 1) := by decide +kernel
theorem dX8_ask_6 : decode cX8_ask 6 = .ok (.iconst 4, 1) := by decide +kernel
theorem dX8_ask_7 : decode cX8_ask 7 = .ok (.invokestatic 157, 3) := by decide +kernel
theorem dX8_ask_10 : decode cX8_ask 10 = .ok (.ifCond .eq 21, 3) := by decide +kernel
theorem dX8_ask_13 : decode cX8_ask 13 = .ok (.aload_n 0, 1) := by decide +kernel
theorem dX8_ask_14 : decode cX8_ask 14 = .ok (.getfield 10, 3) := by decide +kernel
theorem dX8_ask_17 : decode cX8_ask 17 = .ok (.getfield 185, 3) := by decide +kernel
theorem dX8_ask_20 : decode cX8_ask 20 = .ok (.istore_n 3, 1) := by decide +kernel
theorem dX8_ask_21 : decode cX8_ask 21 = .ok (.aload_n 0, 1) := by decide +kernel
theorem dX8_ask_22 : decode cX8_ask 22 = .ok (.getfield 10, 3) := by decide +kernel
theorem dX8_ask_25 : decode cX8_ask 25 = .ok (.iload_n 2, 1) := by decide +kernel
theorem dX8_ask_26 : decode cX8_ask 26 = .ok (.putfield 185, 3) := by decide +kernel
theorem dX8_ask_29 : decode cX8_ask 29 = .ok (.iload_n 3, 1) := by decide +kernel
theorem dX8_ask_30 : decode cX8_ask 30 = .ok (.ireturn, 1) := by decide +kernel
theorem dX8_ask_31 : decode cX8_ask 31 = .ok (.iload_n 1, 1) := by decide +kernel
theorem dX8_ask_32 : decode cX8_ask 32 = .ok (.iconst 1, 1) := by decide +kernel
theorem dX8_ask_33 : decode cX8_ask 33 = .ok (.if_icmp .ne 31, 3) := by decide +kernel
theorem dX8_ask_36 : decode cX8_ask 36 = .ok (.iload_n 2, 1) := by decide +kernel
theorem dX8_ask_37 : decode cX8_ask 37 = .ok (.iconst 0, 1) := by decide +kernel
theorem dX8_ask_38 : decode cX8_ask 38 = .ok (.bipush 40, 2) := by decide +kernel
theorem dX8_ask_40 : decode cX8_ask 40 = .ok (.invokestatic 157, 3) := by decide +kernel
theorem dX8_ask_43 : decode cX8_ask 43 = .ok (.ifCond .eq 21, 3) := by decide +kernel
theorem dX8_ask_46 : decode cX8_ask 46 = .ok (.aload_n 0, 1) := by decide +kernel
theorem dX8_ask_47 : decode cX8_ask 47 = .ok (.getfield 10, 3) := by decide +kernel
theorem dX8_ask_50 : decode cX8_ask 50 = .ok (.getfield 188, 3) := by decide +kernel
theorem dX8_ask_53 : decode cX8_ask 53 = .ok (.istore_n 3, 1) := by decide +kernel
theorem dX8_ask_54 : decode cX8_ask 54 = .ok (.aload_n 0, 1) := by decide +kernel
theorem dX8_ask_55 : decode cX8_ask 55 = .ok (.getfield 10, 3) := by decide +kernel
theorem dX8_ask_58 : decode cX8_ask 58 = .ok (.iload_n 2, 1) := by decide +kernel
theorem dX8_ask_59 : decode cX8_ask 59 = .ok (.putfield 188, 3) := by decide +kernel
theorem dX8_ask_62 : decode cX8_ask 62 = .ok (.iload_n 3, 1) := by decide +kernel
theorem dX8_ask_63 : decode cX8_ask 63 = .ok (.ireturn, 1) := by decide +kernel
theorem dX8_ask_64 : decode cX8_ask 64 = .ok (.aload_n 0, 1) := by decide +kernel
theorem dX8_ask_65 : decode cX8_ask 65 = .ok (.bipush 6, 2) := by decide +kernel
theorem dX8_ask_67 : decode cX8_ask 67 = .ok (.invokevirtual 73, 3) := by decide +kernel
theorem dX8_ask_70 : decode cX8_ask 70 = .ok (.ireturn, 1) := by decide +kernel
theorem dX8_personOf_0 : decode cX8_personOf 0 = .ok (.aload_n 0, 1) := by decide +kernel
theorem dX8_personOf_1 : decode cX8_personOf 1 = .ok (.getfield 10, 3) := by decide +kernel
theorem dX8_personOf_4 : decode cX8_personOf 4 = .ok (.iload_n 1, 1) := by decide +kernel
theorem dX8_personOf_5 : decode cX8_personOf 5 = .ok (.invokevirtual 120, 3) := by decide +kernel
theorem dX8_personOf_8 : decode cX8_personOf 8 = .ok (.ifCond .ne 9, 3) := by decide +kernel
theorem dX8_personOf_11 : decode cX8_personOf 11 = .ok (.aload_n 0, 1) := by decide +kernel
theorem dX8_personOf_12 : decode cX8_personOf 12 = .ok (.iconst 5, 1) := by decide +kernel
theorem dX8_personOf_13 : decode cX8_personOf 13 = .ok (.invokevirtual 73, 3) := by decide +kernel
theorem dX8_personOf_16 : decode cX8_personOf 16 = .ok (.ireturn, 1) := by decide +kernel
theorem dX8_personOf_17 : decode cX8_personOf 17 = .ok (.iload_n 2, 1) := by decide +kernel
theorem dX8_personOf_18 : decode cX8_personOf 18 = .ok (.tableswitch 153 0 8 #[50, 60, 70, 80, 90, 100, 110, 119, 136], 50) := by decide +kernel
theorem dX8_personOf_68 : decode cX8_personOf 68 = .ok (.aload_n 0, 1) := by decide +kernel
theorem dX8_personOf_69 : decode cX8_personOf 69 = .ok (.getfield 10, 3) := by decide +kernel
theorem dX8_personOf_72 : decode cX8_personOf 72 = .ok (.getfield 135, 3) := by decide +kernel
theorem dX8_personOf_75 : decode cX8_personOf 75 = .ok (.iload_n 1, 1) := by decide +kernel
theorem dX8_personOf_76 : decode cX8_personOf 76 = .ok (.iaload, 1) := by decide +kernel
theorem dX8_personOf_77 : decode cX8_personOf 77 = .ok (.ireturn, 1) := by decide +kernel
theorem dX8_personOf_78 : decode cX8_personOf 78 = .ok (.aload_n 0, 1) := by decide +kernel
theorem dX8_personOf_79 : decode cX8_personOf 79 = .ok (.getfield 10, 3) := by decide +kernel
theorem dX8_personOf_82 : decode cX8_personOf 82 = .ok (.getfield 191, 3) := by decide +kernel
theorem dX8_personOf_85 : decode cX8_personOf 85 = .ok (.iload_n 1, 1) := by decide +kernel
theorem dX8_personOf_86 : decode cX8_personOf 86 = .ok (.iaload, 1) := by decide +kernel
theorem dX8_personOf_87 : decode cX8_personOf 87 = .ok (.ireturn, 1) := by decide +kernel
theorem dX8_personOf_88 : decode cX8_personOf 88 = .ok (.aload_n 0, 1) := by decide +kernel
theorem dX8_personOf_89 : decode cX8_personOf 89 = .ok (.getfield 10, 3) := by decide +kernel
theorem dX8_personOf_92 : decode cX8_personOf 92 = .ok (.getfield 151, 3) := by decide +kernel
theorem dX8_personOf_95 : decode cX8_personOf 95 = .ok (.iload_n 1, 1) := by decide +kernel
theorem dX8_personOf_96 : decode cX8_personOf 96 = .ok (.iaload, 1) := by decide +kernel
theorem dX8_personOf_97 : decode cX8_personOf 97 = .ok (.ireturn, 1) := by decide +kernel
theorem dX8_personOf_98 : decode cX8_personOf 98 = .ok (.aload_n 0, 1) := by decide +kernel
theorem dX8_personOf_99 : decode cX8_personOf 99 = .ok (.getfield 10, 3) := by decide +kernel
theorem dX8_personOf_102 : decode cX8_personOf 102 = .ok (.getfield 148, 3) := by decide +kernel
theorem dX8_personOf_105 : decode cX8_personOf 105 = .ok (.iload_n 1, 1) := by decide +kernel
theorem dX8_personOf_106 : decode cX8_personOf 106 = .ok (.iaload, 1) := by decide +kernel
theorem dX8_personOf_107 : decode cX8_personOf 107 = .ok (.ireturn, 1) := by decide +kernel
theorem dX8_personOf_108 : decode cX8_personOf 108 = .ok (.aload_n 0, 1) := by decide +kernel
theorem dX8_personOf_109 : decode cX8_personOf 109 = .ok (.getfield 10, 3) := by decide +kernel
theorem dX8_personOf_112 : decode cX8_personOf 112 = .ok (.getfield 145, 3) := by decide +kernel
theorem dX8_personOf_115 : decode cX8_personOf 115 = .ok (.iload_n 1, 1) := by decide +kernel
theorem dX8_personOf_116 : decode cX8_personOf 116 = .ok (.iaload, 1) := by decide +kernel
theorem dX8_personOf_117 : decode cX8_personOf 117 = .ok (.ireturn, 1) := by decide +kernel
theorem dX8_personOf_118 : decode cX8_personOf 118 = .ok (.aload_n 0, 1) := by decide +kernel
theorem dX8_personOf_119 : decode cX8_personOf 119 = .ok (.getfield 10, 3) := by decide +kernel
theorem dX8_personOf_122 : decode cX8_personOf 122 = .ok (.getfield 194, 3) := by decide +kernel
theorem dX8_personOf_125 : decode cX8_personOf 125 = .ok (.iload_n 1, 1) := by decide +kernel
theorem dX8_personOf_126 : decode cX8_personOf 126 = .ok (.iaload, 1) := by decide +kernel
theorem dX8_personOf_127 : decode cX8_personOf 127 = .ok (.ireturn, 1) := by decide +kernel
theorem dX8_personOf_128 : decode cX8_personOf 128 = .ok (.aload_n 0, 1) := by decide +kernel
theorem dX8_personOf_129 : decode cX8_personOf 129 = .ok (.getfield 10, 3) := by decide +kernel
theorem dX8_personOf_132 : decode cX8_personOf 132 = .ok (.iload_n 1, 1) := by decide +kernel
theorem dX8_personOf_133 : decode cX8_personOf 133 = .ok (.invokevirtual 154, 3) := by decide +kernel
theorem dX8_personOf_136 : decode cX8_personOf 136 = .ok (.ireturn, 1) := by decide +kernel
theorem dX8_personOf_137 : decode cX8_personOf 137 = .ok (.aload_n 0, 1) := by decide +kernel
theorem dX8_personOf_138 : decode cX8_personOf 138 = .ok (.getfield 10, 3) := by decide +kernel
theorem dX8_personOf_141 : decode cX8_personOf 141 = .ok (.iload_n 1, 1) := by decide +kernel
theorem dX8_personOf_142 : decode cX8_personOf 142 = .ok (.invokevirtual 197, 3) := by decide +kernel
theorem dX8_personOf_145 : decode cX8_personOf 145 = .ok (.ifCond .eq 7, 3) := by decide +kernel
theorem dX8_personOf_148 : decode cX8_personOf 148 = .ok (.iconst 1, 1) := by decide +kernel
theorem dX8_personOf_149 : decode cX8_personOf 149 = .ok (.goto 4, 3) := by decide +kernel
theorem dX8_personOf_152 : decode cX8_personOf 152 = .ok (.iconst 0, 1) := by decide +kernel
theorem dX8_personOf_153 : decode cX8_personOf 153 = .ok (.ireturn, 1) := by decide +kernel
theorem dX8_personOf_154 : decode cX8_personOf 154 = .ok (.aload_n 0, 1) := by decide +kernel
theorem dX8_personOf_155 : decode cX8_personOf 155 = .ok (.getfield 10, 3) := by decide +kernel
theorem dX8_personOf_158 : decode cX8_personOf 158 = .ok (.iload_n 1, 1) := by decide +kernel
theorem dX8_personOf_159 : decode cX8_personOf 159 = .ok (.invokevirtual 200, 3) := by decide +kernel
theorem dX8_personOf_162 : decode cX8_personOf 162 = .ok (.ifCond .eq 7, 3) := by decide +kernel
theorem dX8_personOf_165 : decode cX8_personOf 165 = .ok (.iconst 1, 1) := by decide +kernel
theorem dX8_personOf_166 : decode cX8_personOf 166 = .ok (.goto 4, 3) := by decide +kernel
theorem dX8_personOf_169 : decode cX8_personOf 169 = .ok (.iconst 0, 1) := by decide +kernel
theorem dX8_personOf_170 : decode cX8_personOf 170 = .ok (.ireturn, 1) := by decide +kernel
theorem dX8_personOf_171 : decode cX8_personOf 171 = .ok (.aload_n 0, 1) := by decide +kernel
theorem dX8_personOf_172 : decode cX8_personOf 172 = .ok (.iconst 5, 1) := by decide +kernel
theorem dX8_personOf_173 : decode cX8_personOf 173 = .ok (.invokevirtual 73, 3) := by decide +kernel
theorem dX8_personOf_176 : decode cX8_personOf 176 = .ok (.ireturn, 1) := by decide +kernel
theorem dX8_squareOf_0 : decode cX8_squareOf 0 = .ok (.iload_n 1, 1) := by decide +kernel
theorem dX8_squareOf_1 : decode cX8_squareOf 1 = .ok (.invokestatic 203, 3) := by decide +kernel
theorem dX8_squareOf_4 : decode cX8_squareOf 4 = .ok (.ifCond .ne 9, 3) := by decide +kernel
theorem dX8_squareOf_7 : decode cX8_squareOf 7 = .ok (.aload_n 0, 1) := by decide +kernel
theorem dX8_squareOf_8 : decode cX8_squareOf 8 = .ok (.iconst 5, 1) := by decide +kernel
theorem dX8_squareOf_9 : decode cX8_squareOf 9 = .ok (.invokevirtual 73, 3) := by decide +kernel
theorem dX8_squareOf_12 : decode cX8_squareOf 12 = .ok (.ireturn, 1) := by decide +kernel
theorem dX8_squareOf_13 : decode cX8_squareOf 13 = .ok (.iload_n 2, 1) := by decide +kernel
theorem dX8_squareOf_14 : decode cX8_squareOf 14 = .ok (.lookupswitch 52 #[(0, 26), (1, 43)], 26) := by decide +kernel
theorem dX8_squareOf_40 : decode cX8_squareOf 40 = .ok (.aload_n 0, 1) := by decide +kernel
theorem dX8_squareOf_41 : decode cX8_squareOf 41 = .ok (.getfield 10, 3) := by decide +kernel
theorem dX8_squareOf_44 : decode cX8_squareOf 44 = .ok (.iload_n 1, 1) := by decide +kernel
theorem dX8_squareOf_45 : decode cX8_squareOf 45 = .ok (.invokevirtual 174, 3) := by decide +kernel
theorem dX8_squareOf_48 : decode cX8_squareOf 48 = .ok (.ifCond .eq 7, 3) := by decide +kernel
theorem dX8_squareOf_51 : decode cX8_squareOf 51 = .ok (.iconst 1, 1) := by decide +kernel
theorem dX8_squareOf_52 : decode cX8_squareOf 52 = .ok (.goto 4, 3) := by decide +kernel
theorem dX8_squareOf_55 : decode cX8_squareOf 55 = .ok (.iconst 0, 1) := by decide +kernel
theorem dX8_squareOf_56 : decode cX8_squareOf 56 = .ok (.ireturn, 1) := by decide +kernel
theorem dX8_squareOf_57 : decode cX8_squareOf 57 = .ok (.aload_n 0, 1) := by decide +kernel
theorem dX8_squareOf_58 : decode cX8_squareOf 58 = .ok (.getfield 10, 3) := by decide +kernel
theorem dX8_squareOf_61 : decode cX8_squareOf 61 = .ok (.iload_n 1, 1) := by decide +kernel
theorem dX8_squareOf_62 : decode cX8_squareOf 62 = .ok (.invokevirtual 206, 3) := by decide +kernel
theorem dX8_squareOf_65 : decode cX8_squareOf 65 = .ok (.ireturn, 1) := by decide +kernel
theorem dX8_squareOf_66 : decode cX8_squareOf 66 = .ok (.aload_n 0, 1) := by decide +kernel
theorem dX8_squareOf_67 : decode cX8_squareOf 67 = .ok (.iconst 5, 1) := by decide +kernel
theorem dX8_squareOf_68 : decode cX8_squareOf 68 = .ok (.invokevirtual 73, 3) := by decide +kernel
theorem dX8_squareOf_71 : decode cX8_squareOf 71 = .ok (.ireturn, 1) := by decide +kernel
theorem dX8_port_0 : decode cX8_port 0 = .ok (.aload_n 0, 1) := by decide +kernel
theorem dX8_port_1 : decode cX8_port 1 = .ok (.iload_n 1, 1) := by decide +kernel
theorem dX8_port_2 : decode cX8_port 2 = .ok (.invokevirtual 81, 3) := by decide +kernel
theorem dX8_port_5 : decode cX8_port 5 = .ok (.istore_n 2, 1) := by decide +kernel
theorem dX8_port_6 : decode cX8_port 6 = .ok (.iload_n 2, 1) := by decide +kernel
theorem dX8_port_7 : decode cX8_port 7 = .ok (.ifCond .eq 9, 3) := by decide +kernel
theorem dX8_port_10 : decode cX8_port 10 = .ok (.aload_n 0, 1) := by decide +kernel
theorem dX8_port_11 : decode cX8_port 11 = .ok (.iload_n 2, 1) := by decide +kernel
theorem dX8_port_12 : decode cX8_port 12 = .ok (.invokevirtual 73, 3) := by decide +kernel
theorem dX8_port_15 : decode cX8_port 15 = .ok (.ireturn, 1) := by decide +kernel
theorem dX8_port_16 : decode cX8_port 16 = .ok (.aload_n 0, 1) := by decide +kernel
theorem dX8_port_17 : decode cX8_port 17 = .ok (.getfield 16, 3) := by decide +kernel
theorem dX8_port_20 : decode cX8_port 20 = .ok (.aload_n 0, 1) := by decide +kernel
theorem dX8_port_21 : decode cX8_port 21 = .ok (.getfield 10, 3) := by decide +kernel
theorem dX8_port_24 : decode cX8_port 24 = .ok (.invokevirtual 209, 3) := by decide +kernel
theorem dX8_port_27 : decode cX8_port 27 = .ok (.aload_n 0, 1) := by decide +kernel
theorem dX8_port_28 : decode cX8_port 28 = .ok (.getfield 49, 3) := by decide +kernel
theorem dX8_port_31 : decode cX8_port 31 = .ok (.aload_n 0, 1) := by decide +kernel
theorem dX8_port_32 : decode cX8_port 32 = .ok (.getfield 24, 3) := by decide +kernel
theorem dX8_port_35 : decode cX8_port 35 = .ok (.iload_n 1, 1) := by decide +kernel
theorem dX8_port_36 : decode cX8_port 36 = .ok (.aaload, 1) := by decide +kernel
theorem dX8_port_37 : decode cX8_port 37 = .ok (.aload_n 0, 1) := by decide +kernel
theorem dX8_port_38 : decode cX8_port 38 = .ok (.getfield 16, 3) := by decide +kernel
theorem dX8_port_41 : decode cX8_port 41 = .ok (.invokevirtual 213, 3) := by decide +kernel
theorem dX8_port_44 : decode cX8_port 44 = .ok (.istore_n 3, 1) := by decide +kernel
theorem dX8_port_45 : decode cX8_port 45 = .ok (.aload_n 0, 1) := by decide +kernel
theorem dX8_port_46 : decode cX8_port 46 = .ok (.aload_n 0, 1) := by decide +kernel
theorem dX8_port_47 : decode cX8_port 47 = .ok (.getfield 49, 3) := by decide +kernel
theorem dX8_port_50 : decode cX8_port 50 = .ok (.getfield 217, 3) := by decide +kernel
theorem dX8_port_53 : decode cX8_port 53 = .ok (.putfield 64, 3) := by decide +kernel
theorem dX8_port_56 : decode cX8_port 56 = .ok (.aload_n 0, 1) := by decide +kernel
theorem dX8_port_57 : decode cX8_port 57 = .ok (.getfield 64, 3) := by decide +kernel
theorem dX8_port_60 : decode cX8_port 60 = .ok (.iconst (-1), 1) := by decide +kernel
theorem dX8_port_61 : decode cX8_port 61 = .ok (.if_icmp .eq 10, 3) := by decide +kernel
theorem dX8_port_64 : decode cX8_port 64 = .ok (.aload_n 0, 1) := by decide +kernel
theorem dX8_port_65 : decode cX8_port 65 = .ok (.bipush 6, 2) := by decide +kernel
theorem dX8_port_67 : decode cX8_port 67 = .ok (.invokevirtual 73, 3) := by decide +kernel
theorem dX8_port_70 : decode cX8_port 70 = .ok (.ireturn, 1) := by decide +kernel
theorem dX8_port_71 : decode cX8_port 71 = .ok (.aload_n 0, 1) := by decide +kernel
theorem dX8_port_72 : decode cX8_port 72 = .ok (.getfield 10, 3) := by decide +kernel
theorem dX8_port_75 : decode cX8_port 75 = .ok (.aload_n 0, 1) := by decide +kernel
theorem dX8_port_76 : decode cX8_port 76 = .ok (.getfield 16, 3) := by decide +kernel
theorem dX8_port_79 : decode cX8_port 79 = .ok (.invokevirtual 209, 3) := by decide +kernel
theorem dX8_port_82 : decode cX8_port 82 = .ok (.iload_n 3, 1) := by decide +kernel
theorem dX8_port_83 : decode cX8_port 83 = .ok (.ireturn, 1) := by decide +kernel
theorem dX8_fault_0 : decode cX8_fault 0 = .ok (.aload_n 0, 1) := by decide +kernel
theorem dX8_fault_1 : decode cX8_fault 1 = .ok (.getfield 64, 3) := by decide +kernel
theorem dX8_fault_4 : decode cX8_fault 4 = .ok (.ireturn, 1) := by decide +kernel
theorem dX8_far_0 : decode cX8_far 0 = .ok (.iload_n 1, 1) := by decide +kernel
theorem dX8_far_1 : decode cX8_far 1 = .ok (.invokestatic 203, 3) := by decide +kernel
theorem dX8_far_4 : decode cX8_far 4 = .ok (.ifCond .ne 10, 3) := by decide +kernel
theorem dX8_far_7 : decode cX8_far 7 = .ok (.aload_n 0, 1) := by decide +kernel
theorem dX8_far_8 : decode cX8_far 8 = .ok (.bipush 6, 2) := by decide +kernel
theorem dX8_far_10 : decode cX8_far 10 = .ok (.invokevirtual 73, 3) := by decide +kernel
theorem dX8_far_13 : decode cX8_far 13 = .ok (.ireturn, 1) := by decide +kernel
theorem dX8_far_14 : decode cX8_far 14 = .ok (.aload_n 0, 1) := by decide +kernel
theorem dX8_far_15 : decode cX8_far 15 = .ok (.getfield 35, 3) := by decide +kernel
theorem dX8_far_18 : decode cX8_far 18 = .ok (.aload_n 0, 1) := by decide +kernel
theorem dX8_far_19 : decode cX8_far 19 = .ok (.getfield 10, 3) := by decide +kernel
theorem dX8_far_22 : decode cX8_far 22 = .ok (.getfield 220, 3) := by decide +kernel
theorem dX8_far_25 : decode cX8_far 25 = .ok (.invokevirtual 224, 3) := by decide +kernel
theorem dX8_far_28 : decode cX8_far 28 = .ok (.aload_n 0, 1) := by decide +kernel
theorem dX8_far_29 : decode cX8_far 29 = .ok (.getfield 35, 3) := by decide +kernel
theorem dX8_far_32 : decode cX8_far 32 = .ok (.getfield 228, 3) := by decide +kernel
theorem dX8_far_35 : decode cX8_far 35 = .ok (.iload_n 1, 1) := by decide +kernel
theorem dX8_far_36 : decode cX8_far 36 = .ok (.iaload, 1) := by decide +kernel
theorem dX8_far_37 : decode cX8_far 37 = .ok (.ireturn, 1) := by decide +kernel
theorem dX8_who_0 : decode cX8_who 0 = .ok (.iload_n 1, 1) := by decide +kernel
theorem dX8_who_1 : decode cX8_who 1 = .ok (.tableswitch 72 0 2 #[27, 49, 64], 27) := by decide +kernel
theorem dX8_who_28 : decode cX8_who 28 = .ok (.aload_n 0, 1) := by decide +kernel
theorem dX8_who_29 : decode cX8_who 29 = .ok (.iconst 0, 1) := by decide +kernel
theorem dX8_who_30 : decode cX8_who 30 = .ok (.invokevirtual 231, 3) := by decide +kernel
theorem dX8_who_33 : decode cX8_who 33 = .ok (.aload_n 0, 1) := by decide +kernel
theorem dX8_who_34 : decode cX8_who 34 = .ok (.getfield 42, 3) := by decide +kernel
theorem dX8_who_37 : decode cX8_who 37 = .ok (.aload_n 0, 1) := by decide +kernel
theorem dX8_who_38 : decode cX8_who 38 = .ok (.getfield 10, 3) := by decide +kernel
theorem dX8_who_41 : decode cX8_who 41 = .ok (.aload_n 0, 1) := by decide +kernel
theorem dX8_who_42 : decode cX8_who 42 = .ok (.getfield 35, 3) := by decide +kernel
theorem dX8_who_45 : decode cX8_who 45 = .ok (.iconst 0, 1) := by decide +kernel
theorem dX8_who_46 : decode cX8_who 46 = .ok (.invokevirtual 234, 3) := by decide +kernel
theorem dX8_who_49 : decode cX8_who 49 = .ok (.ireturn, 1) := by decide +kernel
theorem dX8_who_50 : decode cX8_who 50 = .ok (.aload_n 0, 1) := by decide +kernel
theorem dX8_who_51 : decode cX8_who 51 = .ok (.getfield 10, 3) := by decide +kernel
theorem dX8_who_54 : decode cX8_who 54 = .ok (.aload_n 0, 1) := by decide +kernel
theorem dX8_who_55 : decode cX8_who 55 = .ok (.getfield 10, 3) := by decide +kernel
theorem dX8_who_58 : decode cX8_who 58 = .ok (.getfield 188, 3) := by decide +kernel
theorem dX8_who_61 : decode cX8_who 61 = .ok (.invokevirtual 238, 3) := by decide +kernel
theorem dX8_who_64 : decode cX8_who 64 = .ok (.ireturn, 1) := by decide +kernel
theorem dX8_who_65 : decode cX8_who 65 = .ok (.aload_n 0, 1) := by decide +kernel
theorem dX8_who_66 : decode cX8_who 66 = .ok (.getfield 10, 3) := by decide +kernel
theorem dX8_who_69 : decode cX8_who 69 = .ok (.invokevirtual 241, 3) := by decide +kernel
theorem dX8_who_72 : decode cX8_who 72 = .ok (.ireturn, 1) := by decide +kernel
theorem dX8_who_73 : decode cX8_who 73 = .ok (.aload_n 0, 1) := by decide +kernel
theorem dX8_who_74 : decode cX8_who 74 = .ok (.iconst 5, 1) := by decide +kernel
theorem dX8_who_75 : decode cX8_who 75 = .ok (.invokevirtual 73, 3) := by decide +kernel
theorem dX8_who_78 : decode cX8_who 78 = .ok (.ireturn, 1) := by decide +kernel
theorem dX8_where_0 : decode cX8_where 0 = .ok (.aload_n 0, 1) := by decide +kernel
theorem dX8_where_1 : decode cX8_where 1 = .ok (.getfield 10, 3) := by decide +kernel
theorem dX8_where_4 : decode cX8_where 4 = .ok (.iload_n 1, 1) := by decide +kernel
theorem dX8_where_5 : decode cX8_where 5 = .ok (.invokevirtual 120, 3) := by decide +kernel
theorem dX8_where_8 : decode cX8_where 8 = .ok (.ifCond .ne 9, 3) := by decide +kernel
theorem dX8_where_11 : decode cX8_where 11 = .ok (.aload_n 0, 1) := by decide +kernel
theorem dX8_where_12 : decode cX8_where 12 = .ok (.iconst 1, 1) := by decide +kernel
theorem dX8_where_13 : decode cX8_where 13 = .ok (.invokevirtual 73, 3) := by decide +kernel
theorem dX8_where_16 : decode cX8_where 16 = .ok (.ireturn, 1) := by decide +kernel
theorem dX8_where_17 : decode cX8_where 17 = .ok (.iload_n 2, 1) := by decide +kernel
theorem dX8_where_18 : decode cX8_where 18 = .ok (.invokestatic 245, 3) := by decide +kernel
theorem dX8_where_21 : decode cX8_where 21 = .ok (.ifCond .ne 10, 3) := by decide +kernel
theorem dX8_where_24 : decode cX8_where 24 = .ok (.aload_n 0, 1) := by decide +kernel
theorem dX8_where_25 : decode cX8_where 25 = .ok (.bipush 6, 2) := by decide +kernel
theorem dX8_where_27 : decode cX8_where 27 = .ok (.invokevirtual 73, 3) := by decide +kernel
theorem dX8_where_30 : decode cX8_where 30 = .ok (.ireturn, 1) := by decide +kernel
theorem dX8_where_31 : decode cX8_where 31 = .ok (.aload_n 0, 1) := by decide +kernel
theorem dX8_where_32 : decode cX8_where 32 = .ok (.iload_n 2, 1) := by decide +kernel
theorem dX8_where_33 : decode cX8_where 33 = .ok (.invokevirtual 231, 3) := by decide +kernel
theorem dX8_where_36 : decode cX8_where 36 = .ok (.aload_n 0, 1) := by decide +kernel
theorem dX8_where_37 : decode cX8_where 37 = .ok (.getfield 42, 3) := by decide +kernel
theorem dX8_where_40 : decode cX8_where 40 = .ok (.getfield 248, 3) := by decide +kernel
theorem dX8_where_43 : decode cX8_where 43 = .ok (.iload_n 1, 1) := by decide +kernel
theorem dX8_where_44 : decode cX8_where 44 = .ok (.iaload, 1) := by decide +kernel
theorem dX8_where_45 : decode cX8_where 45 = .ok (.ireturn, 1) := by decide +kernel
theorem dX8_chosen_0 : decode cX8_chosen 0 = .ok (.iload_n 1, 1) := by decide +kernel
theorem dX8_chosen_1 : decode cX8_chosen 1 = .ok (.invokestatic 245, 3) := by decide +kernel
theorem dX8_chosen_4 : decode cX8_chosen 4 = .ok (.ifCond .ne 10, 3) := by decide +kernel
theorem dX8_chosen_7 : decode cX8_chosen 7 = .ok (.aload_n 0, 1) := by decide +kernel
theorem dX8_chosen_8 : decode cX8_chosen 8 = .ok (.bipush 6, 2) := by decide +kernel
theorem dX8_chosen_10 : decode cX8_chosen 10 = .ok (.invokevirtual 73, 3) := by decide +kernel
theorem dX8_chosen_13 : decode cX8_chosen 13 = .ok (.ireturn, 1) := by decide +kernel
theorem dX8_chosen_14 : decode cX8_chosen 14 = .ok (.aload_n 0, 1) := by decide +kernel
theorem dX8_chosen_15 : decode cX8_chosen 15 = .ok (.iload_n 1, 1) := by decide +kernel
theorem dX8_chosen_16 : decode cX8_chosen 16 = .ok (.invokevirtual 231, 3) := by decide +kernel
theorem dX8_chosen_19 : decode cX8_chosen 19 = .ok (.aload_n 0, 1) := by decide +kernel
theorem dX8_chosen_20 : decode cX8_chosen 20 = .ok (.getfield 42, 3) := by decide +kernel
theorem dX8_chosen_23 : decode cX8_chosen 23 = .ok (.aload_n 0, 1) := by decide +kernel
theorem dX8_chosen_24 : decode cX8_chosen 24 = .ok (.getfield 10, 3) := by decide +kernel
theorem dX8_chosen_27 : decode cX8_chosen 27 = .ok (.aload_n 0, 1) := by decide +kernel
theorem dX8_chosen_28 : decode cX8_chosen 28 = .ok (.getfield 35, 3) := by decide +kernel
theorem dX8_chosen_31 : decode cX8_chosen 31 = .ok (.iconst 0, 1) := by decide +kernel
theorem dX8_chosen_32 : decode cX8_chosen 32 = .ok (.invokevirtual 234, 3) := by decide +kernel
theorem dX8_chosen_35 : decode cX8_chosen 35 = .ok (.ireturn, 1) := by decide +kernel
theorem dX8_hide_0 : decode cX8_hide 0 = .ok (.aload_n 0, 1) := by decide +kernel
theorem dX8_hide_1 : decode cX8_hide 1 = .ok (.getfield 10, 3) := by decide +kernel
theorem dX8_hide_4 : decode cX8_hide 4 = .ok (.iload_n 1, 1) := by decide +kernel
theorem dX8_hide_5 : decode cX8_hide 5 = .ok (.invokevirtual 120, 3) := by decide +kernel
theorem dX8_hide_8 : decode cX8_hide 8 = .ok (.ifCond .ne 9, 3) := by decide +kernel
theorem dX8_hide_11 : decode cX8_hide 11 = .ok (.aload_n 0, 1) := by decide +kernel
theorem dX8_hide_12 : decode cX8_hide 12 = .ok (.iconst 1, 1) := by decide +kernel
theorem dX8_hide_13 : decode cX8_hide 13 = .ok (.invokevirtual 249, 3) := by decide +kernel
theorem dX8_hide_16 : decode cX8_hide 16 = .ok (.ireturn, 1) := by decide +kernel
theorem dX8_hide_17 : decode cX8_hide 17 = .ok (.iload_n 2, 1) := by decide +kernel
theorem dX8_hide_18 : decode cX8_hide 18 = .ok (.invokestatic 245, 3) := by decide +kernel
theorem dX8_hide_21 : decode cX8_hide 21 = .ok (.ifCond .ne 10, 3) := by decide +kernel
theorem dX8_hide_24 : decode cX8_hide 24 = .ok (.aload_n 0, 1) := by decide +kernel
theorem dX8_hide_25 : decode cX8_hide 25 = .ok (.bipush 6, 2) := by decide +kernel
theorem dX8_hide_27 : decode cX8_hide 27 = .ok (.invokevirtual 249, 3) := by decide +kernel
theorem dX8_hide_30 : decode cX8_hide 30 = .ok (.ireturn, 1) := by decide +kernel
theorem dX8_hide_31 : decode cX8_hide 31 = .ok (.aload_n 0, 1) := by decide +kernel
theorem dX8_hide_32 : decode cX8_hide 32 = .ok (.getfield 35, 3) := by decide +kernel
theorem dX8_hide_35 : decode cX8_hide 35 = .ok (.aload_n 0, 1) := by decide +kernel
theorem dX8_hide_36 : decode cX8_hide 36 = .ok (.getfield 10, 3) := by decide +kernel
theorem dX8_hide_39 : decode cX8_hide 39 = .ok (.getfield 220, 3) := by decide +kernel
theorem dX8_hide_42 : decode cX8_hide 42 = .ok (.invokevirtual 224, 3) := by decide +kernel
theorem dX8_hide_45 : decode cX8_hide 45 = .ok (.aload_n 0, 1) := by decide +kernel
theorem dX8_hide_46 : decode cX8_hide 46 = .ok (.getfield 35, 3) := by decide +kernel
theorem dX8_hide_49 : decode cX8_hide 49 = .ok (.aload_n 0, 1) := by decide +kernel
theorem dX8_hide_50 : decode cX8_hide 50 = .ok (.getfield 10, 3) := by decide +kernel
theorem dX8_hide_53 : decode cX8_hide 53 = .ok (.getfield 220, 3) := by decide +kernel
theorem dX8_hide_56 : decode cX8_hide 56 = .ok (.aload_n 0, 1) := by decide +kernel
theorem dX8_hide_57 : decode cX8_hide 57 = .ok (.getfield 10, 3) := by decide +kernel
theorem dX8_hide_60 : decode cX8_hide 60 = .ok (.getfield 145, 3) := by decide +kernel
theorem dX8_hide_63 : decode cX8_hide 63 = .ok (.iload_n 1, 1) := by decide +kernel
theorem dX8_hide_64 : decode cX8_hide 64 = .ok (.iaload, 1) := by decide +kernel
theorem dX8_hide_65 : decode cX8_hide 65 = .ok (.aload_n 0, 1) := by decide +kernel
theorem dX8_hide_66 : decode cX8_hide 66 = .ok (.getfield 35, 3) := by decide +kernel
theorem dX8_hide_69 : decode cX8_hide 69 = .ok (.getfield 252, 3) := by decide +kernel
theorem dX8_hide_72 : decode cX8_hide 72 = .ok (.invokevirtual 255, 3) := by decide +kernel
theorem dX8_hide_75 : decode cX8_hide 75 = .ok (.iconst (-1), 1) := by decide +kernel
theorem dX8_hide_76 : decode cX8_hide 76 = .ok (.istore_n 3, 1) := by decide +kernel
theorem dX8_hide_77 : decode cX8_hide 77 = .ok (.iconst 0, 1) := by decide +kernel
theorem dX8_hide_78 : decode cX8_hide 78 = .ok (.istore 4, 2) := by decide +kernel
theorem dX8_hide_80 : decode cX8_hide 80 = .ok (.iload 4, 2) := by decide +kernel
theorem dX8_hide_82 : decode cX8_hide 82 = .ok (.bipush 49, 2) := by decide +kernel
theorem dX8_hide_84 : decode cX8_hide 84 = .ok (.if_icmp .ge 80, 3) := by decide +kernel
theorem dX8_hide_87 : decode cX8_hide 87 = .ok (.aload_n 0, 1) := by decide +kernel
theorem dX8_hide_88 : decode cX8_hide 88 = .ok (.getfield 35, 3) := by decide +kernel
theorem dX8_hide_91 : decode cX8_hide 91 = .ok (.getfield 252, 3) := by decide +kernel
theorem dX8_hide_94 : decode cX8_hide 94 = .ok (.iload 4, 2) := by decide +kernel
theorem dX8_hide_96 : decode cX8_hide 96 = .ok (.iaload, 1) := by decide +kernel
theorem dX8_hide_97 : decode cX8_hide 97 = .ok (.iload_n 2, 1) := by decide +kernel
theorem dX8_hide_98 : decode cX8_hide 98 = .ok (.if_icmp .gt 22, 3) := by decide +kernel
theorem dX8_hide_101 : decode cX8_hide 101 = .ok (.aload_n 0, 1) := by decide +kernel
theorem dX8_hide_102 : decode cX8_hide 102 = .ok (.getfield 35, 3) := by decide +kernel
theorem dX8_hide_105 : decode cX8_hide 105 = .ok (.getfield 228, 3) := by decide +kernel
theorem dX8_hide_108 : decode cX8_hide 108 = .ok (.iload 4, 2) := by decide +kernel
theorem dX8_hide_110 : decode cX8_hide 110 = .ok (.iaload, 1) := by decide +kernel
theorem dX8_hide_111 : decode cX8_hide 111 = .ok (.bipush 99, 2) := by decide +kernel
theorem dX8_hide_113 : decode cX8_hide 113 = .ok (.if_icmp .eq 7, 3) := by decide +kernel
theorem dX8_hide_116 : decode cX8_hide 116 = .ok (.iconst 1, 1) := by decide +kernel
theorem dX8_hide_117 : decode cX8_hide 117 = .ok (.goto 4, 3) := by decide +kernel
theorem dX8_hide_120 : decode cX8_hide 120 = .ok (.iconst 0, 1) := by decide +kernel
theorem dX8_hide_121 : decode cX8_hide 121 = .ok (.istore 5, 2) := by decide +kernel
theorem dX8_hide_123 : decode cX8_hide 123 = .ok (.iload 5, 2) := by decide +kernel
theorem dX8_hide_125 : decode cX8_hide 125 = .ok (.ifCond .eq 33, 3) := by decide +kernel
theorem dX8_hide_128 : decode cX8_hide 128 = .ok (.iload_n 3, 1) := by decide +kernel
theorem dX8_hide_129 : decode cX8_hide 129 = .ok (.iconst (-1), 1) := by decide +kernel
theorem dX8_hide_130 : decode cX8_hide 130 = .ok (.if_icmp .eq 25, 3) := by decide +kernel
theorem dX8_hide_133 : decode cX8_hide 133 = .ok (.aload_n 0, 1) := by decide +kernel
theorem dX8_hide_134 : decode cX8_hide 134 = .ok (.getfield 35, 3) := by decide +kernel
theorem dX8_hide_137 : decode cX8_hide 137 = .ok (.getfield 228, 3) := by decide +kernel
theorem dX8_hide_140 : decode cX8_hide 140 = .ok (.iload 4, 2) := by decide +kernel
theorem dX8_hide_142 : decode cX8_hide 142 = .ok (.iaload, 1) := by decide +kernel
theorem dX8_hide_143 : decode cX8_hide 143 = .ok (.aload_n 0, 1) := by decide +kernel
theorem dX8_hide_144 : decode cX8_hide 144 = .ok (.getfield 35, 3) := by decide +kernel
theorem dX8_hide_147 : decode cX8_hide 147 = .ok (.getfield 228, 3) := by decide +kernel
theorem dX8_hide_150 : decode cX8_hide 150 = .ok (.iload_n 3, 1) := by decide +kernel
theorem dX8_hide_151 : decode cX8_hide 151 = .ok (.iaload, 1) := by decide +kernel
theorem dX8_hide_152 : decode cX8_hide 152 = .ok (.if_icmp .le 6, 3) := by decide +kernel
theorem dX8_hide_155 : decode cX8_hide 155 = .ok (.iload 4, 2) := by decide +kernel
theorem dX8_hide_157 : decode cX8_hide 157 = .ok (.istore_n 3, 1) := by decide +kernel
theorem dX8_hide_158 : decode cX8_hide 158 = .ok (.iinc 4 1, 3) := by decide +kernel
theorem dX8_hide_161 : decode cX8_hide 161 = .ok (.goto (-81), 3) := by decide +kernel
theorem dX8_hide_164 : decode cX8_hide 164 = .ok (.iload_n 3, 1) := by decide +kernel
theorem dX8_hide_165 : decode cX8_hide 165 = .ok (.ireturn, 1) := by decide +kernel
theorem dX8_to_0 : decode cX8_to 0 = .ok (.aload_n 0, 1) := by decide +kernel
theorem dX8_to_1 : decode cX8_to 1 = .ok (.getfield 10, 3) := by decide +kernel
theorem dX8_to_4 : decode cX8_to 4 = .ok (.iload_n 1, 1) := by decide +kernel
theorem dX8_to_5 : decode cX8_to 5 = .ok (.invokevirtual 120, 3) := by decide +kernel
theorem dX8_to_8 : decode cX8_to 8 = .ok (.ifCond .ne 9, 3) := by decide +kernel
theorem dX8_to_11 : decode cX8_to 11 = .ok (.aload_n 0, 1) := by decide +kernel
theorem dX8_to_12 : decode cX8_to 12 = .ok (.iconst 1, 1) := by decide +kernel
theorem dX8_to_13 : decode cX8_to 13 = .ok (.invokevirtual 249, 3) := by decide +kernel
theorem dX8_to_16 : decode cX8_to 16 = .ok (.ireturn, 1) := by decide +kernel
theorem dX8_to_17 : decode cX8_to 17 = .ok (.aload_n 0, 1) := by decide +kernel
theorem dX8_to_18 : decode cX8_to 18 = .ok (.getfield 10, 3) := by decide +kernel
theorem dX8_to_21 : decode cX8_to 21 = .ok (.iload_n 2, 1) := by decide +kernel
theorem dX8_to_22 : decode cX8_to 22 = .ok (.invokevirtual 161, 3) := by decide +kernel
theorem dX8_to_25 : decode cX8_to 25 = .ok (.ifCond .ne 10, 3) := by decide +kernel
theorem dX8_to_28 : decode cX8_to 28 = .ok (.aload_n 0, 1) := by decide +kernel
theorem dX8_to_29 : decode cX8_to 29 = .ok (.bipush 6, 2) := by decide +kernel
theorem dX8_to_31 : decode cX8_to 31 = .ok (.invokevirtual 249, 3) := by decide +kernel
theorem dX8_to_34 : decode cX8_to 34 = .ok (.ireturn, 1) := by decide +kernel
theorem dX8_to_35 : decode cX8_to 35 = .ok (.aload_n 0, 1) := by decide +kernel
theorem dX8_to_36 : decode cX8_to 36 = .ok (.getfield 35, 3) := by decide +kernel
theorem dX8_to_39 : decode cX8_to 39 = .ok (.aload_n 0, 1) := by decide +kernel
theorem dX8_to_40 : decode cX8_to 40 = .ok (.getfield 10, 3) := by decide +kernel
theorem dX8_to_43 : decode cX8_to 43 = .ok (.getfield 220, 3) := by decide +kernel
theorem dX8_to_46 : decode cX8_to 46 = .ok (.aload_n 0, 1) := by decide +kernel
theorem dX8_to_47 : decode cX8_to 47 = .ok (.getfield 10, 3) := by decide +kernel
theorem dX8_to_50 : decode cX8_to 50 = .ok (.getfield 145, 3) := by decide +kernel
theorem dX8_to_53 : decode cX8_to 53 = .ok (.iload_n 1, 1) := by decide +kernel
theorem dX8_to_54 : decode cX8_to 54 = .ok (.iaload, 1) := by decide +kernel
theorem dX8_to_55 : decode cX8_to 55 = .ok (.aload_n 0, 1) := by decide +kernel
theorem dX8_to_56 : decode cX8_to 56 = .ok (.getfield 35, 3) := by decide +kernel
theorem dX8_to_59 : decode cX8_to 59 = .ok (.getfield 252, 3) := by decide +kernel
theorem dX8_to_62 : decode cX8_to 62 = .ok (.invokevirtual 255, 3) := by decide +kernel
theorem dX8_to_65 : decode cX8_to 65 = .ok (.aload_n 0, 1) := by decide +kernel
theorem dX8_to_66 : decode cX8_to 66 = .ok (.getfield 35, 3) := by decide +kernel
theorem dX8_to_69 : decode cX8_to 69 = .ok (.getfield 252, 3) := by decide +kernel
theorem dX8_to_72 : decode cX8_to 72 = .ok (.iload_n 2, 1) := by decide +kernel
theorem dX8_to_73 : decode cX8_to 73 = .ok (.iaload, 1) := by decide +kernel
theorem dX8_to_74 : decode cX8_to 74 = .ok (.bipush 99, 2) := by decide +kernel
theorem dX8_to_76 : decode cX8_to 76 = .ok (.if_icmp .ne 7, 3) := by decide +kernel
theorem dX8_to_79 : decode cX8_to 79 = .ok (.iconst (-1), 1) := by decide +kernel
theorem dX8_to_80 : decode cX8_to 80 = .ok (.goto 12, 3) := by decide +kernel
theorem dX8_to_83 : decode cX8_to 83 = .ok (.aload_n 0, 1) := by decide +kernel
theorem dX8_to_84 : decode cX8_to 84 = .ok (.getfield 35, 3) := by decide +kernel
theorem dX8_to_87 : decode cX8_to 87 = .ok (.getfield 252, 3) := by decide +kernel
theorem dX8_to_90 : decode cX8_to 90 = .ok (.iload_n 2, 1) := by decide +kernel
theorem dX8_to_91 : decode cX8_to 91 = .ok (.iaload, 1) := by decide +kernel
theorem dX8_to_92 : decode cX8_to 92 = .ok (.ireturn, 1) := by decide +kernel
theorem dX8_spared_0 : decode cX8_spared 0 = .ok (.aload_n 0, 1) := by decide +kernel
theorem dX8_spared_1 : decode cX8_spared 1 = .ok (.getfield 10, 3) := by decide +kernel
theorem dX8_spared_4 : decode cX8_spared 4 = .ok (.iload_n 1, 1) := by decide +kernel
theorem dX8_spared_5 : decode cX8_spared 5 = .ok (.invokevirtual 120, 3) := by decide +kernel
theorem dX8_spared_8 : decode cX8_spared 8 = .ok (.ifCond .ne 9, 3) := by decide +kernel
theorem dX8_spared_11 : decode cX8_spared 11 = .ok (.aload_n 0, 1) := by decide +kernel
theorem dX8_spared_12 : decode cX8_spared 12 = .ok (.iconst 1, 1) := by decide +kernel
theorem dX8_spared_13 : decode cX8_spared 13 = .ok (.invokevirtual 249, 3) := by decide +kernel
theorem dX8_spared_16 : decode cX8_spared 16 = .ok (.ireturn, 1) := by decide +kernel
theorem dX8_spared_17 : decode cX8_spared 17 = .ok (.iload_n 2, 1) := by decide +kernel
theorem dX8_spared_18 : decode cX8_spared 18 = .ok (.invokestatic 245, 3) := by decide +kernel
theorem dX8_spared_21 : decode cX8_spared 21 = .ok (.ifCond .ne 10, 3) := by decide +kernel
theorem dX8_spared_24 : decode cX8_spared 24 = .ok (.aload_n 0, 1) := by decide +kernel
theorem dX8_spared_25 : decode cX8_spared 25 = .ok (.bipush 6, 2) := by decide +kernel
theorem dX8_spared_27 : decode cX8_spared 27 = .ok (.invokevirtual 249, 3) := by decide +kernel
theorem dX8_spared_30 : decode cX8_spared 30 = .ok (.ireturn, 1) := by decide +kernel
theorem dX8_spared_31 : decode cX8_spared 31 = .ok (.iconst 0, 1) := by decide +kernel
theorem dX8_spared_32 : decode cX8_spared 32 = .ok (.istore_n 3, 1) := by decide +kernel
theorem dX8_spared_33 : decode cX8_spared 33 = .ok (.iload_n 3, 1) := by decide +kernel
theorem dX8_spared_34 : decode cX8_spared 34 = .ok (.bipush 49, 2) := by decide +kernel
theorem dX8_spared_36 : decode cX8_spared 36 = .ok (.if_icmp .ge 93, 3) := by decide +kernel
theorem dX8_spared_39 : decode cX8_spared 39 = .ok (.aload_n 0, 1) := by decide +kernel
theorem dX8_spared_40 : decode cX8_spared 40 = .ok (.getfield 10, 3) := by decide +kernel
theorem dX8_spared_43 : decode cX8_spared 43 = .ok (.iload_n 3, 1) := by decide +kernel
theorem dX8_spared_44 : decode cX8_spared 44 = .ok (.invokevirtual 174, 3) := by decide +kernel
theorem dX8_spared_47 : decode cX8_spared 47 = .ok (.ifCond .ne 76, 3) := by decide +kernel
theorem dX8_spared_50 : decode cX8_spared 50 = .ok (.aload_n 0, 1) := by decide +kernel
theorem dX8_spared_51 : decode cX8_spared 51 = .ok (.getfield 10, 3) := by decide +kernel
theorem dX8_spared_54 : decode cX8_spared 54 = .ok (.iload_n 3, 1) := by decide +kernel
theorem dX8_spared_55 : decode cX8_spared 55 = .ok (.invokevirtual 171, 3) := by decide +kernel
theorem dX8_spared_58 : decode cX8_spared 58 = .ok (.ifCond .ne 6, 3) := by decide +kernel
theorem dX8_spared_61 : decode cX8_spared 61 = .ok (.goto 62, 3) := by decide +kernel
theorem dX8_spared_64 : decode cX8_spared 64 = .ok (.aload_n 0, 1) := by decide +kernel
theorem dX8_spared_65 : decode cX8_spared 65 = .ok (.getfield 35, 3) := by decide +kernel
theorem dX8_spared_68 : decode cX8_spared 68 = .ok (.aload_n 0, 1) := by decide +kernel
theorem dX8_spared_69 : decode cX8_spared 69 = .ok (.getfield 10, 3) := by decide +kernel
theorem dX8_spared_72 : decode cX8_spared 72 = .ok (.getfield 220, 3) := by decide +kernel
theorem dX8_spared_75 : decode cX8_spared 75 = .ok (.lconst 1, 1) := by decide +kernel
theorem dX8_spared_76 : decode cX8_spared 76 = .ok (.iload_n 3, 1) := by decide +kernel
theorem dX8_spared_77 : decode cX8_spared 77 = .ok (.lshl, 1) := by decide +kernel
theorem dX8_spared_78 : decode cX8_spared 78 = .ok (.lor, 1) := by decide +kernel
theorem dX8_spared_79 : decode cX8_spared 79 = .ok (.invokevirtual 224, 3) := by decide +kernel
theorem dX8_spared_82 : decode cX8_spared 82 = .ok (.aload_n 0, 1) := by decide +kernel
theorem dX8_spared_83 : decode cX8_spared 83 = .ok (.getfield 42, 3) := by decide +kernel
theorem dX8_spared_86 : decode cX8_spared 86 = .ok (.aload_n 0, 1) := by decide +kernel
theorem dX8_spared_87 : decode cX8_spared 87 = .ok (.getfield 10, 3) := by decide +kernel
theorem dX8_spared_90 : decode cX8_spared 90 = .ok (.aload_n 0, 1) := by decide +kernel
theorem dX8_spared_91 : decode cX8_spared 91 = .ok (.getfield 35, 3) := by decide +kernel
theorem dX8_spared_94 : decode cX8_spared 94 = .ok (.iload_n 2, 1) := by decide +kernel
theorem dX8_spared_95 : decode cX8_spared 95 = .ok (.invokevirtual 259, 3) := by decide +kernel
theorem dX8_spared_98 : decode cX8_spared 98 = .ok (.aload_n 0, 1) := by decide +kernel
theorem dX8_spared_99 : decode cX8_spared 99 = .ok (.getfield 42, 3) := by decide +kernel
theorem dX8_spared_102 : decode cX8_spared 102 = .ok (.aload_n 0, 1) := by decide +kernel
theorem dX8_spared_103 : decode cX8_spared 103 = .ok (.getfield 10, 3) := by decide +kernel
theorem dX8_spared_106 : decode cX8_spared 106 = .ok (.aload_n 0, 1) := by decide +kernel
theorem dX8_spared_107 : decode cX8_spared 107 = .ok (.getfield 35, 3) := by decide +kernel
theorem dX8_spared_110 : decode cX8_spared 110 = .ok (.iconst 0, 1) := by decide +kernel
theorem dX8_spared_111 : decode cX8_spared 111 = .ok (.invokevirtual 234, 3) := by decide +kernel
theorem dX8_spared_114 : decode cX8_spared 114 = .ok (.iload_n 1, 1) := by decide +kernel
theorem dX8_spared_115 : decode cX8_spared 115 = .ok (.invokestatic 263, 3) := by decide +kernel
theorem dX8_spared_118 : decode cX8_spared 118 = .ok (.ifCond .ne 5, 3) := by decide +kernel
theorem dX8_spared_121 : decode cX8_spared 121 = .ok (.iload_n 3, 1) := by decide +kernel
theorem dX8_spared_122 : decode cX8_spared 122 = .ok (.ireturn, 1) := by decide +kernel
theorem dX8_spared_123 : decode cX8_spared 123 = .ok (.iinc 3 1, 3) := by decide +kernel
theorem dX8_spared_126 : decode cX8_spared 126 = .ok (.goto (-93), 3) := by decide +kernel
theorem dX8_spared_129 : decode cX8_spared 129 = .ok (.iconst (-1), 1) := by decide +kernel
theorem dX8_spared_130 : decode cX8_spared 130 = .ok (.ireturn, 1) := by decide +kernel
theorem dX8_wanting_0 : decode cX8_wanting 0 = .ok (.aload_n 0, 1) := by decide +kernel
theorem dX8_wanting_1 : decode cX8_wanting 1 = .ok (.getfield 10, 3) := by decide +kernel
theorem dX8_wanting_4 : decode cX8_wanting 4 = .ok (.iload_n 1, 1) := by decide +kernel
theorem dX8_wanting_5 : decode cX8_wanting 5 = .ok (.invokevirtual 120, 3) := by decide +kernel
theorem dX8_wanting_8 : decode cX8_wanting 8 = .ok (.ifCond .ne 9, 3) := by decide +kernel
theorem dX8_wanting_11 : decode cX8_wanting 11 = .ok (.aload_n 0, 1) := by decide +kernel
theorem dX8_wanting_12 : decode cX8_wanting 12 = .ok (.iconst 1, 1) := by decide +kernel
theorem dX8_wanting_13 : decode cX8_wanting 13 = .ok (.invokevirtual 249, 3) := by decide +kernel
theorem dX8_wanting_16 : decode cX8_wanting 16 = .ok (.ireturn, 1) := by decide +kernel
theorem dX8_wanting_17 : decode cX8_wanting 17 = .ok (.iload_n 3, 1) := by decide +kernel
theorem dX8_wanting_18 : decode cX8_wanting 18 = .ok (.ifCond .eq 14, 3) := by decide +kernel
theorem dX8_wanting_21 : decode cX8_wanting 21 = .ok (.iload_n 3, 1) := by decide +kernel
theorem dX8_wanting_22 : decode cX8_wanting 22 = .ok (.iconst 1, 1) := by decide +kernel
theorem dX8_wanting_23 : decode cX8_wanting 23 = .ok (.if_icmp .eq 9, 3) := by decide +kernel
theorem dX8_wanting_26 : decode cX8_wanting 26 = .ok (.aload_n 0, 1) := by decide +kernel
theorem dX8_wanting_27 : decode cX8_wanting 27 = .ok (.iconst 5, 1) := by decide +kernel
theorem dX8_wanting_28 : decode cX8_wanting 28 = .ok (.invokevirtual 249, 3) := by decide +kernel
theorem dX8_wanting_31 : decode cX8_wanting 31 = .ok (.ireturn, 1) := by decide +kernel
theorem dX8_wanting_32 : decode cX8_wanting 32 = .ok (.iload_n 2, 1) := by decide +kernel
theorem dX8_wanting_33 : decode cX8_wanting 33 = .ok (.invokestatic 245, 3) := by decide +kernel
theorem dX8_wanting_36 : decode cX8_wanting 36 = .ok (.ifCond .ne 10, 3) := by decide +kernel
theorem dX8_wanting_39 : decode cX8_wanting 39 = .ok (.aload_n 0, 1) := by decide +kernel
theorem dX8_wanting_40 : decode cX8_wanting 40 = .ok (.bipush 6, 2) := by decide +kernel
theorem dX8_wanting_42 : decode cX8_wanting 42 = .ok (.invokevirtual 249, 3) := by decide +kernel
theorem dX8_wanting_45 : decode cX8_wanting 45 = .ok (.ireturn, 1) := by decide +kernel
theorem dX8_wanting_46 : decode cX8_wanting 46 = .ok (.aload_n 0, 1) := by decide +kernel
theorem dX8_wanting_47 : decode cX8_wanting 47 = .ok (.getfield 35, 3) := by decide +kernel
theorem dX8_wanting_50 : decode cX8_wanting 50 = .ok (.aload_n 0, 1) := by decide +kernel
theorem dX8_wanting_51 : decode cX8_wanting 51 = .ok (.getfield 10, 3) := by decide +kernel
theorem dX8_wanting_54 : decode cX8_wanting 54 = .ok (.getfield 220, 3) := by decide +kernel
theorem dX8_wanting_57 : decode cX8_wanting 57 = .ok (.invokevirtual 224, 3) := by decide +kernel
theorem dX8_wanting_60 : decode cX8_wanting 60 = .ok (.aload_n 0, 1) := by decide +kernel
theorem dX8_wanting_61 : decode cX8_wanting 61 = .ok (.getfield 16, 3) := by decide +kernel
theorem dX8_wanting_64 : decode cX8_wanting 64 = .ok (.aload_n 0, 1) := by decide +kernel
theorem dX8_wanting_65 : decode cX8_wanting 65 = .ok (.getfield 10, 3) := by decide +kernel
theorem dX8_wanting_68 : decode cX8_wanting 68 = .ok (.invokevirtual 209, 3) := by decide +kernel
theorem dX8_wanting_71 : decode cX8_wanting 71 = .ok (.iconst (-1), 1) := by decide +kernel
theorem dX8_wanting_72 : decode cX8_wanting 72 = .ok (.istore 4, 2) := by decide +kernel
theorem dX8_wanting_74 : decode cX8_wanting 74 = .ok (.iconst 0, 1) := by decide +kernel
theorem dX8_wanting_75 : decode cX8_wanting 75 = .ok (.istore 5, 2) := by decide +kernel
theorem dX8_wanting_77 : decode cX8_wanting 77 = .ok (.iload 5, 2) := by decide +kernel
theorem dX8_wanting_79 : decode cX8_wanting 79 = .ok (.bipush 20, 2) := by decide +kernel
theorem dX8_wanting_81 : decode cX8_wanting 81 = .ok (.if_icmp .gt 78, 3) := by decide +kernel
theorem dX8_wanting_84 : decode cX8_wanting 84 = .ok (.aload_n 0, 1) := by decide +kernel
theorem dX8_wanting_85 : decode cX8_wanting 85 = .ok (.getfield 16, 3) := by decide +kernel
theorem dX8_wanting_88 : decode cX8_wanting 88 = .ok (.getfield 151, 3) := by decide +kernel
theorem dX8_wanting_91 : decode cX8_wanting 91 = .ok (.iload_n 1, 1) := by decide +kernel
theorem dX8_wanting_92 : decode cX8_wanting 92 = .ok (.iload 5, 2) := by decide +kernel
theorem dX8_wanting_94 : decode cX8_wanting 94 = .ok (.iastore, 1) := by decide +kernel
theorem dX8_wanting_95 : decode cX8_wanting 95 = .ok (.aload_n 0, 1) := by decide +kernel
theorem dX8_wanting_96 : decode cX8_wanting 96 = .ok (.getfield 42, 3) := by decide +kernel
theorem dX8_wanting_99 : decode cX8_wanting 99 = .ok (.aload_n 0, 1) := by decide +kernel
theorem dX8_wanting_100 : decode cX8_wanting 100 = .ok (.getfield 16, 3) := by decide +kernel
theorem dX8_wanting_103 : decode cX8_wanting 103 = .ok (.aload_n 0, 1) := by decide +kernel
theorem dX8_wanting_104 : decode cX8_wanting 104 = .ok (.getfield 35, 3) := by decide +kernel
theorem dX8_wanting_107 : decode cX8_wanting 107 = .ok (.iload_n 2, 1) := by decide +kernel
theorem dX8_wanting_108 : decode cX8_wanting 108 = .ok (.invokevirtual 259, 3) := by decide +kernel
theorem dX8_wanting_111 : decode cX8_wanting 111 = .ok (.aload_n 0, 1) := by decide +kernel
theorem dX8_wanting_112 : decode cX8_wanting 112 = .ok (.getfield 42, 3) := by decide +kernel
theorem dX8_wanting_115 : decode cX8_wanting 115 = .ok (.aload_n 0, 1) := by decide +kernel
theorem dX8_wanting_116 : decode cX8_wanting 116 = .ok (.getfield 16, 3) := by decide +kernel
theorem dX8_wanting_119 : decode cX8_wanting 119 = .ok (.aload_n 0, 1) := by decide +kernel
theorem dX8_wanting_120 : decode cX8_wanting 120 = .ok (.getfield 35, 3) := by decide +kernel
theorem dX8_wanting_123 : decode cX8_wanting 123 = .ok (.iconst 0, 1) := by decide +kernel
theorem dX8_wanting_124 : decode cX8_wanting 124 = .ok (.invokevirtual 234, 3) := by decide +kernel
theorem dX8_wanting_127 : decode cX8_wanting 127 = .ok (.iload_n 1, 1) := by decide +kernel
theorem dX8_wanting_128 : decode cX8_wanting 128 = .ok (.invokestatic 263, 3) := by decide +kernel
theorem dX8_wanting_131 : decode cX8_wanting 131 = .ok (.istore 6, 2) := by decide +kernel
theorem dX8_wanting_133 : decode cX8_wanting 133 = .ok (.iload 6, 2) := by decide +kernel
theorem dX8_wanting_135 : decode cX8_wanting 135 = .ok (.ifCond .eq 18, 3) := by decide +kernel
theorem dX8_wanting_138 : decode cX8_wanting 138 = .ok (.iload 4, 2) := by decide +kernel
theorem dX8_wanting_140 : decode cX8_wanting 140 = .ok (.iconst (-1), 1) := by decide +kernel
theorem dX8_wanting_141 : decode cX8_wanting 141 = .ok (.if_icmp .eq 8, 3) := by decide +kernel
theorem dX8_wanting_144 : decode cX8_wanting 144 = .ok (.iload_n 3, 1) := by decide +kernel
theorem dX8_wanting_145 : decode cX8_wanting 145 = .ok (.iconst 1, 1) := by decide +kernel
theorem dX8_wanting_146 : decode cX8_wanting 146 = .ok (.if_icmp .ne 7, 3) := by decide +kernel
theorem dX8_wanting_149 : decode cX8_wanting 149 = .ok (.iload 5, 2) := by decide +kernel
theorem dX8_wanting_151 : decode cX8_wanting 151 = .ok (.istore 4, 2) := by decide +kernel
theorem dX8_wanting_153 : decode cX8_wanting 153 = .ok (.iinc 5 1, 3) := by decide +kernel
theorem dX8_wanting_156 : decode cX8_wanting 156 = .ok (.goto (-79), 3) := by decide +kernel
theorem dX8_wanting_159 : decode cX8_wanting 159 = .ok (.iload 4, 2) := by decide +kernel
theorem dX8_wanting_161 : decode cX8_wanting 161 = .ok (.ireturn, 1) := by decide +kernel
theorem dX8_without_0 : decode cX8_without 0 = .ok (.aload_n 0, 1) := by decide +kernel
theorem dX8_without_1 : decode cX8_without 1 = .ok (.getfield 10, 3) := by decide +kernel
theorem dX8_without_4 : decode cX8_without 4 = .ok (.iload_n 1, 1) := by decide +kernel
theorem dX8_without_5 : decode cX8_without 5 = .ok (.invokevirtual 120, 3) := by decide +kernel
theorem dX8_without_8 : decode cX8_without 8 = .ok (.ifCond .ne 9, 3) := by decide +kernel
theorem dX8_without_11 : decode cX8_without 11 = .ok (.aload_n 0, 1) := by decide +kernel
theorem dX8_without_12 : decode cX8_without 12 = .ok (.iconst 1, 1) := by decide +kernel
theorem dX8_without_13 : decode cX8_without 13 = .ok (.invokevirtual 73, 3) := by decide +kernel
theorem dX8_without_16 : decode cX8_without 16 = .ok (.ireturn, 1) := by decide +kernel
theorem dX8_without_17 : decode cX8_without 17 = .ok (.iload_n 2, 1) := by decide +kernel
theorem dX8_without_18 : decode cX8_without 18 = .ok (.invokestatic 245, 3) := by decide +kernel
theorem dX8_without_21 : decode cX8_without 21 = .ok (.ifCond .ne 10, 3) := by decide +kernel
theorem dX8_without_24 : decode cX8_without 24 = .ok (.aload_n 0, 1) := by decide +kernel
theorem dX8_without_25 : decode cX8_without 25 = .ok (.bipush 6, 2) := by decide +kernel
theorem dX8_without_27 : decode cX8_without 27 = .ok (.invokevirtual 73, 3) := by decide +kernel
theorem dX8_without_30 : decode cX8_without 30 = .ok (.ireturn, 1) := by decide +kernel
theorem dX8_without_31 : decode cX8_without 31 = .ok (.aload_n 0, 1) := by decide +kernel
theorem dX8_without_32 : decode cX8_without 32 = .ok (.iload_n 2, 1) := by decide +kernel
theorem dX8_without_33 : decode cX8_without 33 = .ok (.invokevirtual 231, 3) := by decide +kernel
theorem dX8_without_36 : decode cX8_without 36 = .ok (.aload_n 0, 1) := by decide +kernel
theorem dX8_without_37 : decode cX8_without 37 = .ok (.getfield 42, 3) := by decide +kernel
theorem dX8_without_40 : decode cX8_without 40 = .ok (.aload_n 0, 1) := by decide +kernel
theorem dX8_without_41 : decode cX8_without 41 = .ok (.getfield 10, 3) := by decide +kernel
theorem dX8_without_44 : decode cX8_without 44 = .ok (.aload_n 0, 1) := by decide +kernel
theorem dX8_without_45 : decode cX8_without 45 = .ok (.getfield 35, 3) := by decide +kernel
theorem dX8_without_48 : decode cX8_without 48 = .ok (.iconst 1, 1) := by decide +kernel
theorem dX8_without_49 : decode cX8_without 49 = .ok (.iload_n 1, 1) := by decide +kernel
theorem dX8_without_50 : decode cX8_without 50 = .ok (.ishl, 1) := by decide +kernel
theorem dX8_without_51 : decode cX8_without 51 = .ok (.invokevirtual 234, 3) := by decide +kernel
theorem dX8_without_54 : decode cX8_without 54 = .ok (.ireturn, 1) := by decide +kernel
theorem dX8_fits_0 : decode cX8_fits 0 = .ok (.iload_n 1, 1) := by decide +kernel
theorem dX8_fits_1 : decode cX8_fits 1 = .ok (.invokestatic 69, 3) := by decide +kernel
theorem dX8_fits_4 : decode cX8_fits 4 = .ok (.ifCond .eq 14, 3) := by decide +kernel
theorem dX8_fits_7 : decode cX8_fits 7 = .ok (.aload_n 0, 1) := by decide +kernel
theorem dX8_fits_8 : decode cX8_fits 8 = .ok (.getfield 10, 3) := by decide +kernel
theorem dX8_fits_11 : decode cX8_fits 11 = .ok (.iload_n 2, 1) := by decide +kernel
theorem dX8_fits_12 : decode cX8_fits 12 = .ok (.invokevirtual 120, 3) := by decide +kernel
theorem dX8_fits_15 : decode cX8_fits 15 = .ok (.ifCond .ne 9, 3) := by decide +kernel
theorem dX8_fits_18 : decode cX8_fits 18 = .ok (.aload_n 0, 1) := by decide +kernel
theorem dX8_fits_19 : decode cX8_fits 19 = .ok (.iconst 1, 1) := by decide +kernel
theorem dX8_fits_20 : decode cX8_fits 20 = .ok (.invokevirtual 73, 3) := by decide +kernel
theorem dX8_fits_23 : decode cX8_fits 23 = .ok (.ireturn, 1) := by decide +kernel
theorem dX8_fits_24 : decode cX8_fits 24 = .ok (.aload_n 0, 1) := by decide +kernel
theorem dX8_fits_25 : decode cX8_fits 25 = .ok (.iload_n 1, 1) := by decide +kernel
theorem dX8_fits_26 : decode cX8_fits 26 = .ok (.invokevirtual 81, 3) := by decide +kernel
theorem dX8_fits_29 : decode cX8_fits 29 = .ok (.istore 5, 2) := by decide +kernel
theorem dX8_fits_31 : decode cX8_fits 31 = .ok (.iload 5, 2) := by decide +kernel
theorem dX8_fits_33 : decode cX8_fits 33 = .ok (.ifCond .eq 10, 3) := by decide +kernel
theorem dX8_fits_36 : decode cX8_fits 36 = .ok (.aload_n 0, 1) := by decide +kernel
theorem dX8_fits_37 : decode cX8_fits 37 = .ok (.iload 5, 2) := by decide +kernel
theorem dX8_fits_39 : decode cX8_fits 39 = .ok (.invokevirtual 73, 3) := by decide +kernel
theorem dX8_fits_42 : decode cX8_fits 42 = .ok (.ireturn, 1) := by decide +kernel
theorem dX8_fits_43 : decode cX8_fits 43 = .ok (.iload_n 3, 1) := by decide +kernel
theorem dX8_fits_44 : decode cX8_fits 44 = .ok (.ifCond .ge 9, 3) := by decide +kernel
theorem dX8_fits_47 : decode cX8_fits 47 = .ok (.aload_n 0, 1) := by decide +kernel
theorem dX8_fits_48 : decode cX8_fits 48 = .ok (.iconst 4, 1) := by decide +kernel
theorem dX8_fits_49 : decode cX8_fits 49 = .ok (.invokevirtual 73, 3) := by decide +kernel
theorem dX8_fits_52 : decode cX8_fits 52 = .ok (.ireturn, 1) := by decide +kernel
theorem dX8_fits_53 : decode cX8_fits 53 = .ok (.iload_n 3, 1) := by decide +kernel
theorem dX8_fits_54 : decode cX8_fits 54 = .ok (.aload_n 0, 1) := by decide +kernel
theorem dX8_fits_55 : decode cX8_fits 55 = .ok (.getfield 24, 3) := by decide +kernel
theorem dX8_fits_58 : decode cX8_fits 58 = .ok (.iload_n 1, 1) := by decide +kernel
theorem dX8_fits_59 : decode cX8_fits 59 = .ok (.aaload, 1) := by decide +kernel
theorem dX8_fits_60 : decode cX8_fits 60 = .ok (.getfield 266, 3) := by decide +kernel
theorem dX8_fits_63 : decode cX8_fits 63 = .ok (.if_icmp .gt 14, 3) := by decide +kernel
theorem dX8_fits_66 : decode cX8_fits 66 = .ok (.iload 4, 2) := by decide +kernel
theorem dX8_fits_68 : decode cX8_fits 68 = .ok (.ifCond .eq 15, 3) := by decide +kernel
theorem dX8_fits_71 : decode cX8_fits 71 = .ok (.iload 4, 2) := by decide +kernel
theorem dX8_fits_73 : decode cX8_fits 73 = .ok (.iconst 1, 1) := by decide +kernel
theorem dX8_fits_74 : decode cX8_fits 74 = .ok (.if_icmp .eq 9, 3) := by decide +kernel
theorem dX8_fits_77 : decode cX8_fits 77 = .ok (.aload_n 0, 1) := by decide +kernel
theorem dX8_fits_78 : decode cX8_fits 78 = .ok (.iconst 5, 1) := by decide +kernel
theorem dX8_fits_79 : decode cX8_fits 79 = .ok (.invokevirtual 73, 3) := by decide +kernel
theorem dX8_fits_82 : decode cX8_fits 82 = .ok (.ireturn, 1) := by decide +kernel
theorem dX8_fits_83 : decode cX8_fits 83 = .ok (.iload_n 3, 1) := by decide +kernel
theorem dX8_fits_84 : decode cX8_fits 84 = .ok (.bipush 30, 2) := by decide +kernel
theorem dX8_fits_86 : decode cX8_fits 86 = .ok (.if_icmp .le 10, 3) := by decide +kernel
theorem dX8_fits_89 : decode cX8_fits 89 = .ok (.aload_n 0, 1) := by decide +kernel
theorem dX8_fits_90 : decode cX8_fits 90 = .ok (.bipush 6, 2) := by decide +kernel
theorem dX8_fits_92 : decode cX8_fits 92 = .ok (.invokevirtual 73, 3) := by decide +kernel
theorem dX8_fits_95 : decode cX8_fits 95 = .ok (.ireturn, 1) := by decide +kernel
theorem dX8_fits_96 : decode cX8_fits 96 = .ok (.aload_n 0, 1) := by decide +kernel
theorem dX8_fits_97 : decode cX8_fits 97 = .ok (.getfield 35, 3) := by decide +kernel
theorem dX8_fits_100 : decode cX8_fits 100 = .ok (.aload_n 0, 1) := by decide +kernel
theorem dX8_fits_101 : decode cX8_fits 101 = .ok (.getfield 10, 3) := by decide +kernel
theorem dX8_fits_104 : decode cX8_fits 104 = .ok (.getfield 220, 3) := by decide +kernel
theorem dX8_fits_107 : decode cX8_fits 107 = .ok (.invokevirtual 224, 3) := by decide +kernel
theorem dX8_fits_110 : decode cX8_fits 110 = .ok (.iload 4, 2) := by decide +kernel
theorem dX8_fits_112 : decode cX8_fits 112 = .ok (.ifCond .ne 18, 3) := by decide +kernel
theorem dX8_fits_115 : decode cX8_fits 115 = .ok (.aload_n 0, 1) := by decide +kernel
theorem dX8_fits_116 : decode cX8_fits 116 = .ok (.aload_n 0, 1) := by decide +kernel
theorem dX8_fits_117 : decode cX8_fits 117 = .ok (.getfield 24, 3) := by decide +kernel
theorem dX8_fits_120 : decode cX8_fits 120 = .ok (.iload_n 1, 1) := by decide +kernel
theorem dX8_fits_121 : decode cX8_fits 121 = .ok (.aaload, 1) := by decide +kernel
theorem dX8_fits_122 : decode cX8_fits 122 = .ok (.iload_n 2, 1) := by decide +kernel
theorem dX8_fits_123 : decode cX8_fits 123 = .ok (.iload_n 3, 1) := by decide +kernel
theorem dX8_fits_124 : decode cX8_fits 124 = .ok (.invokevirtual 269, 3) := by decide +kernel
theorem dX8_fits_127 : decode cX8_fits 127 = .ok (.goto 15, 3) := by decide +kernel
theorem dX8_fits_130 : decode cX8_fits 130 = .ok (.aload_n 0, 1) := by decide +kernel
theorem dX8_fits_131 : decode cX8_fits 131 = .ok (.aload_n 0, 1) := by decide +kernel
theorem dX8_fits_132 : decode cX8_fits 132 = .ok (.getfield 24, 3) := by decide +kernel
theorem dX8_fits_135 : decode cX8_fits 135 = .ok (.iload_n 1, 1) := by decide +kernel
theorem dX8_fits_136 : decode cX8_fits 136 = .ok (.aaload, 1) := by decide +kernel
theorem dX8_fits_137 : decode cX8_fits 137 = .ok (.iload_n 2, 1) := by decide +kernel
theorem dX8_fits_138 : decode cX8_fits 138 = .ok (.iload_n 3, 1) := by decide +kernel
theorem dX8_fits_139 : decode cX8_fits 139 = .ok (.invokevirtual 273, 3) := by decide +kernel
theorem dX8_fits_142 : decode cX8_fits 142 = .ok (.ireturn, 1) := by decide +kernel
theorem dX8_wantsThatFit_0 : decode cX8_wantsThatFit 0 = .ok (.aload_n 0, 1) := by decide +kernel
theorem dX8_wantsThatFit_1 : decode cX8_wantsThatFit 1 = .ok (.getfield 16, 3) := by decide +kernel
theorem dX8_wantsThatFit_4 : decode cX8_wantsThatFit 4 = .ok (.aload_n 0, 1) := by decide +kernel
theorem dX8_wantsThatFit_5 : decode cX8_wantsThatFit 5 = .ok (.getfield 10, 3) := by decide +kernel
theorem dX8_wantsThatFit_8 : decode cX8_wantsThatFit 8 = .ok (.invokevirtual 209, 3) := by decide +kernel
theorem dX8_wantsThatFit_11 : decode cX8_wantsThatFit 11 = .ok (.iconst 0, 1) := by decide +kernel
theorem dX8_wantsThatFit_12 : decode cX8_wantsThatFit 12 = .ok (.istore 4, 2) := by decide +kernel
theorem dX8_wantsThatFit_14 : decode cX8_wantsThatFit 14 = .ok (.iconst 0, 1) := by decide +kernel
theorem dX8_wantsThatFit_15 : decode cX8_wantsThatFit 15 = .ok (.istore 5, 2) := by decide +kernel
theorem dX8_wantsThatFit_17 : decode cX8_wantsThatFit 17 = .ok (.iload 5, 2) := by decide +kernel
theorem dX8_wantsThatFit_19 : decode cX8_wantsThatFit 19 = .ok (.bipush 20, 2) := by decide +kernel
theorem dX8_wantsThatFit_21 : decode cX8_wantsThatFit 21 = .ok (.if_icmp .gt 43, 3) := by decide +kernel
theorem dX8_wantsThatFit_24 : decode cX8_wantsThatFit 24 = .ok (.aload_n 0, 1) := by decide +kernel
theorem dX8_wantsThatFit_25 : decode cX8_wantsThatFit 25 = .ok (.getfield 16, 3) := by decide +kernel
theorem dX8_wantsThatFit_28 : decode cX8_wantsThatFit 28 = .ok (.getfield 151, 3) := by decide +kernel
theorem dX8_wantsThatFit_31 : decode cX8_wantsThatFit 31 = .ok (.iload_n 2, 1) := by decide +kernel
theorem dX8_wantsThatFit_32 : decode cX8_wantsThatFit 32 = .ok (.iload 5, 2) := by decide +kernel
theorem dX8_wantsThatFit_34 : decode cX8_wantsThatFit 34 = .ok (.iastore, 1) := by decide +kernel
theorem dX8_wantsThatFit_35 : decode cX8_wantsThatFit 35 = .ok (.iload 4, 2) := by decide +kernel
theorem dX8_wantsThatFit_37 : decode cX8_wantsThatFit 37 = .ok (.aload_n 0, 1) := by decide +kernel
theorem dX8_wantsThatFit_38 : decode cX8_wantsThatFit 38 = .ok (.aload_n 1, 1) := by decide +kernel
theorem dX8_wantsThatFit_39 : decode cX8_wantsThatFit 39 = .ok (.iload_n 2, 1) := by decide +kernel
theorem dX8_wantsThatFit_40 : decode cX8_wantsThatFit 40 = .ok (.iload_n 3, 1) := by decide +kernel
theorem dX8_wantsThatFit_41 : decode cX8_wantsThatFit 41 = .ok (.invokevirtual 276, 3) := by decide +kernel
theorem dX8_wantsThatFit_44 : decode cX8_wantsThatFit 44 = .ok (.ifCond .eq 10, 3) := by decide +kernel
theorem dX8_wantsThatFit_47 : decode cX8_wantsThatFit 47 = .ok (.iconst 1, 1) := by decide +kernel
theorem dX8_wantsThatFit_48 : decode cX8_wantsThatFit 48 = .ok (.iload 5, 2) := by decide +kernel
theorem dX8_wantsThatFit_50 : decode cX8_wantsThatFit 50 = .ok (.ishl, 1) := by decide +kernel
theorem dX8_wantsThatFit_51 : decode cX8_wantsThatFit 51 = .ok (.goto 4, 3) := by decide +kernel
theorem dX8_wantsThatFit_54 : decode cX8_wantsThatFit 54 = .ok (.iconst 0, 1) := by decide +kernel
theorem dX8_wantsThatFit_55 : decode cX8_wantsThatFit 55 = .ok (.ior, 1) := by decide +kernel
theorem dX8_wantsThatFit_56 : decode cX8_wantsThatFit 56 = .ok (.istore 4, 2) := by decide +kernel
theorem dX8_wantsThatFit_58 : decode cX8_wantsThatFit 58 = .ok (.iinc 5 1, 3) := by decide +kernel
theorem dX8_wantsThatFit_61 : decode cX8_wantsThatFit 61 = .ok (.goto (-44), 3) := by decide +kernel
theorem dX8_wantsThatFit_64 : decode cX8_wantsThatFit 64 = .ok (.iload 4, 2) := by decide +kernel
theorem dX8_wantsThatFit_66 : decode cX8_wantsThatFit 66 = .ok (.ireturn, 1) := by decide +kernel
theorem dX8_kindsThatFit_0 : decode cX8_kindsThatFit 0 = .ok (.aload_n 0, 1) := by decide +kernel
theorem dX8_kindsThatFit_1 : decode cX8_kindsThatFit 1 = .ok (.getfield 16, 3) := by decide +kernel
theorem dX8_kindsThatFit_4 : decode cX8_kindsThatFit 4 = .ok (.aload_n 0, 1) := by decide +kernel
theorem dX8_kindsThatFit_5 : decode cX8_kindsThatFit 5 = .ok (.getfield 10, 3) := by decide +kernel
theorem dX8_kindsThatFit_8 : decode cX8_kindsThatFit 8 = .ok (.invokevirtual 209, 3) := by decide +kernel
theorem dX8_kindsThatFit_11 : decode cX8_kindsThatFit 11 = .ok (.iconst 0, 1) := by decide +kernel
theorem dX8_kindsThatFit_12 : decode cX8_kindsThatFit 12 = .ok (.istore 4, 2) := by decide +kernel
theorem dX8_kindsThatFit_14 : decode cX8_kindsThatFit 14 = .ok (.iconst 0, 1) := by decide +kernel
theorem dX8_kindsThatFit_15 : decode cX8_kindsThatFit 15 = .ok (.istore 5, 2) := by decide +kernel
theorem dX8_kindsThatFit_17 : decode cX8_kindsThatFit 17 = .ok (.iload 5, 2) := by decide +kernel
theorem dX8_kindsThatFit_19 : decode cX8_kindsThatFit 19 = .ok (.bipush 7, 2) := by decide +kernel
theorem dX8_kindsThatFit_21 : decode cX8_kindsThatFit 21 = .ok (.if_icmp .ge 43, 3) := by decide +kernel
theorem dX8_kindsThatFit_24 : decode cX8_kindsThatFit 24 = .ok (.aload_n 0, 1) := by decide +kernel
theorem dX8_kindsThatFit_25 : decode cX8_kindsThatFit 25 = .ok (.getfield 16, 3) := by decide +kernel
theorem dX8_kindsThatFit_28 : decode cX8_kindsThatFit 28 = .ok (.getfield 135, 3) := by decide +kernel
theorem dX8_kindsThatFit_31 : decode cX8_kindsThatFit 31 = .ok (.iload_n 2, 1) := by decide +kernel
theorem dX8_kindsThatFit_32 : decode cX8_kindsThatFit 32 = .ok (.iload 5, 2) := by decide +kernel
theorem dX8_kindsThatFit_34 : decode cX8_kindsThatFit 34 = .ok (.iastore, 1) := by decide +kernel
theorem dX8_kindsThatFit_35 : decode cX8_kindsThatFit 35 = .ok (.iload 4, 2) := by decide +kernel
theorem dX8_kindsThatFit_37 : decode cX8_kindsThatFit 37 = .ok (.aload_n 0, 1) := by decide +kernel
theorem dX8_kindsThatFit_38 : decode cX8_kindsThatFit 38 = .ok (.aload_n 1, 1) := by decide +kernel
theorem dX8_kindsThatFit_39 : decode cX8_kindsThatFit 39 = .ok (.iload_n 2, 1) := by decide +kernel
theorem dX8_kindsThatFit_40 : decode cX8_kindsThatFit 40 = .ok (.iload_n 3, 1) := by decide +kernel
theorem dX8_kindsThatFit_41 : decode cX8_kindsThatFit 41 = .ok (.invokevirtual 276, 3) := by decide +kernel
theorem dX8_kindsThatFit_44 : decode cX8_kindsThatFit 44 = .ok (.ifCond .eq 10, 3) := by decide +kernel
theorem dX8_kindsThatFit_47 : decode cX8_kindsThatFit 47 = .ok (.iconst 1, 1) := by decide +kernel
theorem dX8_kindsThatFit_48 : decode cX8_kindsThatFit 48 = .ok (.iload 5, 2) := by decide +kernel
theorem dX8_kindsThatFit_50 : decode cX8_kindsThatFit 50 = .ok (.ishl, 1) := by decide +kernel
theorem dX8_kindsThatFit_51 : decode cX8_kindsThatFit 51 = .ok (.goto 4, 3) := by decide +kernel
theorem dX8_kindsThatFit_54 : decode cX8_kindsThatFit 54 = .ok (.iconst 0, 1) := by decide +kernel
theorem dX8_kindsThatFit_55 : decode cX8_kindsThatFit 55 = .ok (.ior, 1) := by decide +kernel
theorem dX8_kindsThatFit_56 : decode cX8_kindsThatFit 56 = .ok (.istore 4, 2) := by decide +kernel
theorem dX8_kindsThatFit_58 : decode cX8_kindsThatFit 58 = .ok (.iinc 5 1, 3) := by decide +kernel
theorem dX8_kindsThatFit_61 : decode cX8_kindsThatFit 61 = .ok (.goto (-44), 3) := by decide +kernel
theorem dX8_kindsThatFit_64 : decode cX8_kindsThatFit 64 = .ok (.iload 4, 2) := by decide +kernel
theorem dX8_kindsThatFit_66 : decode cX8_kindsThatFit 66 = .ok (.ireturn, 1) := by decide +kernel
theorem dX8_isTrack_0 : decode cX8_isTrack 0 = .ok (.aload_n 0, 1) := by decide +kernel
theorem dX8_isTrack_1 : decode cX8_isTrack 1 = .ok (.getfield 16, 3) := by decide +kernel
theorem dX8_isTrack_4 : decode cX8_isTrack 4 = .ok (.getfield 145, 3) := by decide +kernel
theorem dX8_isTrack_7 : decode cX8_isTrack 7 = .ok (.iload_n 2, 1) := by decide +kernel
theorem dX8_isTrack_8 : decode cX8_isTrack 8 = .ok (.iaload, 1) := by decide +kernel
theorem dX8_isTrack_9 : decode cX8_isTrack 9 = .ok (.istore 4, 2) := by decide +kernel
theorem dX8_isTrack_11 : decode cX8_isTrack 11 = .ok (.iconst 0, 1) := by decide +kernel
theorem dX8_isTrack_12 : decode cX8_isTrack 12 = .ok (.istore 5, 2) := by decide +kernel
theorem dX8_isTrack_14 : decode cX8_isTrack 14 = .ok (.iload 5, 2) := by decide +kernel
theorem dX8_isTrack_16 : decode cX8_isTrack 16 = .ok (.iload_n 3, 1) := by decide +kernel
theorem dX8_isTrack_17 : decode cX8_isTrack 17 = .ok (.if_icmp .ge 48, 3) := by decide +kernel
theorem dX8_isTrack_20 : decode cX8_isTrack 20 = .ok (.aload_n 0, 1) := by decide +kernel
theorem dX8_isTrack_21 : decode cX8_isTrack 21 = .ok (.getfield 16, 3) := by decide +kernel
theorem dX8_isTrack_24 : decode cX8_isTrack 24 = .ok (.aload_n 0, 1) := by decide +kernel
theorem dX8_isTrack_25 : decode cX8_isTrack 25 = .ok (.getfield 35, 3) := by decide +kernel
theorem dX8_isTrack_28 : decode cX8_isTrack 28 = .ok (.iload_n 2, 1) := by decide +kernel
theorem dX8_isTrack_29 : decode cX8_isTrack 29 = .ok (.iload 4, 2) := by decide +kernel
theorem dX8_isTrack_31 : decode cX8_isTrack 31 = .ok (.aload_n 0, 1) := by decide +kernel
theorem dX8_isTrack_32 : decode cX8_isTrack 32 = .ok (.getfield 16, 3) := by decide +kernel
theorem dX8_isTrack_35 : decode cX8_isTrack 35 = .ok (.getfield 280, 3) := by decide +kernel
theorem dX8_isTrack_38 : decode cX8_isTrack 38 = .ok (.iload 5, 2) := by decide +kernel
theorem dX8_isTrack_40 : decode cX8_isTrack 40 = .ok (.iadd, 1) := by decide +kernel
theorem dX8_isTrack_41 : decode cX8_isTrack 41 = .ok (.invokevirtual 283, 3) := by decide +kernel
theorem dX8_isTrack_44 : decode cX8_isTrack 44 = .ok (.istore 4, 2) := by decide +kernel
theorem dX8_isTrack_46 : decode cX8_isTrack 46 = .ok (.aload_n 1, 1) := by decide +kernel
theorem dX8_isTrack_47 : decode cX8_isTrack 47 = .ok (.iload 5, 2) := by decide +kernel
theorem dX8_isTrack_49 : decode cX8_isTrack 49 = .ok (.invokevirtual 287, 3) := by decide +kernel
theorem dX8_isTrack_52 : decode cX8_isTrack 52 = .ok (.iload 4, 2) := by decide +kernel
theorem dX8_isTrack_54 : decode cX8_isTrack 54 = .ok (.if_icmp .eq 5, 3) := by decide +kernel
theorem dX8_isTrack_57 : decode cX8_isTrack 57 = .ok (.iconst 0, 1) := by decide +kernel
theorem dX8_isTrack_58 : decode cX8_isTrack 58 = .ok (.ireturn, 1) := by decide +kernel
theorem dX8_isTrack_59 : decode cX8_isTrack 59 = .ok (.iinc 5 1, 3) := by decide +kernel
theorem dX8_isTrack_62 : decode cX8_isTrack 62 = .ok (.goto (-48), 3) := by decide +kernel
theorem dX8_isTrack_65 : decode cX8_isTrack 65 = .ok (.iconst 1, 1) := by decide +kernel
theorem dX8_isTrack_66 : decode cX8_isTrack 66 = .ok (.ireturn, 1) := by decide +kernel
theorem dX8_tells_0 : decode cX8_tells 0 = .ok (.aload_n 0, 1) := by decide +kernel
theorem dX8_tells_1 : decode cX8_tells 1 = .ok (.getfield 10, 3) := by decide +kernel
theorem dX8_tells_4 : decode cX8_tells 4 = .ok (.iload_n 1, 1) := by decide +kernel
theorem dX8_tells_5 : decode cX8_tells 5 = .ok (.invokevirtual 120, 3) := by decide +kernel
theorem dX8_tells_8 : decode cX8_tells 8 = .ok (.ifCond .ne 9, 3) := by decide +kernel
theorem dX8_tells_11 : decode cX8_tells 11 = .ok (.aload_n 0, 1) := by decide +kernel
theorem dX8_tells_12 : decode cX8_tells 12 = .ok (.iconst 1, 1) := by decide +kernel
theorem dX8_tells_13 : decode cX8_tells 13 = .ok (.invokevirtual 73, 3) := by decide +kernel
theorem dX8_tells_16 : decode cX8_tells 16 = .ok (.ireturn, 1) := by decide +kernel
theorem dX8_tells_17 : decode cX8_tells 17 = .ok (.iload_n 2, 1) := by decide +kernel
theorem dX8_tells_18 : decode cX8_tells 18 = .ok (.ifCond .eq 14, 3) := by decide +kernel
theorem dX8_tells_21 : decode cX8_tells 21 = .ok (.iload_n 2, 1) := by decide +kernel
theorem dX8_tells_22 : decode cX8_tells 22 = .ok (.iconst 1, 1) := by decide +kernel
theorem dX8_tells_23 : decode cX8_tells 23 = .ok (.if_icmp .eq 9, 3) := by decide +kernel
theorem dX8_tells_26 : decode cX8_tells 26 = .ok (.aload_n 0, 1) := by decide +kernel
theorem dX8_tells_27 : decode cX8_tells 27 = .ok (.iconst 5, 1) := by decide +kernel
theorem dX8_tells_28 : decode cX8_tells 28 = .ok (.invokevirtual 73, 3) := by decide +kernel
theorem dX8_tells_31 : decode cX8_tells 31 = .ok (.ireturn, 1) := by decide +kernel
theorem dX8_tells_32 : decode cX8_tells 32 = .ok (.aload_n 0, 1) := by decide +kernel
theorem dX8_tells_33 : decode cX8_tells 33 = .ok (.getfield 35, 3) := by decide +kernel
theorem dX8_tells_36 : decode cX8_tells 36 = .ok (.aload_n 0, 1) := by decide +kernel
theorem dX8_tells_37 : decode cX8_tells 37 = .ok (.getfield 10, 3) := by decide +kernel
theorem dX8_tells_40 : decode cX8_tells 40 = .ok (.getfield 220, 3) := by decide +kernel
theorem dX8_tells_43 : decode cX8_tells 43 = .ok (.invokevirtual 224, 3) := by decide +kernel
theorem dX8_tells_46 : decode cX8_tells 46 = .ok (.aload_n 0, 1) := by decide +kernel
theorem dX8_tells_47 : decode cX8_tells 47 = .ok (.getfield 16, 3) := by decide +kernel
theorem dX8_tells_50 : decode cX8_tells 50 = .ok (.aload_n 0, 1) := by decide +kernel
theorem dX8_tells_51 : decode cX8_tells 51 = .ok (.getfield 10, 3) := by decide +kernel
theorem dX8_tells_54 : decode cX8_tells 54 = .ok (.invokevirtual 209, 3) := by decide +kernel
theorem dX8_tells_57 : decode cX8_tells 57 = .ok (.aload_n 0, 1) := by decide +kernel
theorem dX8_tells_58 : decode cX8_tells 58 = .ok (.getfield 42, 3) := by decide +kernel
theorem dX8_tells_61 : decode cX8_tells 61 = .ok (.aload_n 0, 1) := by decide +kernel
theorem dX8_tells_62 : decode cX8_tells 62 = .ok (.getfield 16, 3) := by decide +kernel
theorem dX8_tells_65 : decode cX8_tells 65 = .ok (.aload_n 0, 1) := by decide +kernel
theorem dX8_tells_66 : decode cX8_tells 66 = .ok (.getfield 35, 3) := by decide +kernel
theorem dX8_tells_69 : decode cX8_tells 69 = .ok (.iload_n 1, 1) := by decide +kernel
theorem dX8_tells_70 : decode cX8_tells 70 = .ok (.invokevirtual 290, 3) := by decide +kernel
theorem dX8_tells_73 : decode cX8_tells 73 = .ok (.aload_n 0, 1) := by decide +kernel
theorem dX8_tells_74 : decode cX8_tells 74 = .ok (.getfield 42, 3) := by decide +kernel
theorem dX8_tells_77 : decode cX8_tells 77 = .ok (.invokevirtual 293, 3) := by decide +kernel
theorem dX8_tells_80 : decode cX8_tells 80 = .ok (.istore_n 3, 1) := by decide +kernel
theorem dX8_tells_81 : decode cX8_tells 81 = .ok (.iload_n 2, 1) := by decide +kernel
theorem dX8_tells_82 : decode cX8_tells 82 = .ok (.ifCond .ne 7, 3) := by decide +kernel
theorem dX8_tells_85 : decode cX8_tells 85 = .ok (.iload_n 3, 1) := by decide +kernel
theorem dX8_tells_86 : decode cX8_tells 86 = .ok (.goto 15, 3) := by decide +kernel
theorem dX8_tells_89 : decode cX8_tells 89 = .ok (.aload_n 0, 1) := by decide +kernel
theorem dX8_tells_90 : decode cX8_tells 90 = .ok (.getfield 42, 3) := by decide +kernel
theorem dX8_tells_93 : decode cX8_tells 93 = .ok (.getfield 296, 3) := by decide +kernel
theorem dX8_tells_96 : decode cX8_tells 96 = .ok (.iload_n 3, 1) := by decide +kernel
theorem dX8_tells_97 : decode cX8_tells 97 = .ok (.laload, 1) := by decide +kernel
theorem dX8_tells_98 : decode cX8_tells 98 = .ok (.invokestatic 299, 3) := by decide +kernel
theorem dX8_tells_101 : decode cX8_tells 101 = .ok (.ireturn, 1) := by decide +kernel
theorem dX8_power_0 : decode cX8_power 0 = .ok (.aload_n 0, 1) := by decide +kernel
theorem dX8_power_1 : decode cX8_power 1 = .ok (.getfield 10, 3) := by decide +kernel
theorem dX8_power_4 : decode cX8_power 4 = .ok (.iload_n 1, 1) := by decide +kernel
theorem dX8_power_5 : decode cX8_power 5 = .ok (.invokevirtual 120, 3) := by decide +kernel
theorem dX8_power_8 : decode cX8_power 8 = .ok (.ifCond .ne 9, 3) := by decide +kernel
theorem dX8_power_11 : decode cX8_power 11 = .ok (.aload_n 0, 1) := by decide +kernel
theorem dX8_power_12 : decode cX8_power 12 = .ok (.iconst 1, 1) := by decide +kernel
theorem dX8_power_13 : decode cX8_power 13 = .ok (.invokevirtual 73, 3) := by decide +kernel
theorem dX8_power_16 : decode cX8_power 16 = .ok (.ireturn, 1) := by decide +kernel
theorem dX8_power_17 : decode cX8_power 17 = .ok (.iload_n 2, 1) := by decide +kernel
theorem dX8_power_18 : decode cX8_power 18 = .ok (.iload_n 1, 1) := by decide +kernel
theorem dX8_power_19 : decode cX8_power 19 = .ok (.invokestatic 263, 3) := by decide +kernel
theorem dX8_power_22 : decode cX8_power 22 = .ok (.ifCond .ne 9, 3) := by decide +kernel
theorem dX8_power_25 : decode cX8_power 25 = .ok (.aload_n 0, 1) := by decide +kernel
theorem dX8_power_26 : decode cX8_power 26 = .ok (.iconst 5, 1) := by decide +kernel
theorem dX8_power_27 : decode cX8_power 27 = .ok (.invokevirtual 73, 3) := by decide +kernel
theorem dX8_power_30 : decode cX8_power 30 = .ok (.ireturn, 1) := by decide +kernel
theorem dX8_power_31 : decode cX8_power 31 = .ok (.aload_n 0, 1) := by decide +kernel
theorem dX8_power_32 : decode cX8_power 32 = .ok (.getfield 10, 3) := by decide +kernel
theorem dX8_power_35 : decode cX8_power 35 = .ok (.iload_n 2, 1) := by decide +kernel
theorem dX8_power_36 : decode cX8_power 36 = .ok (.invokevirtual 305, 3) := by decide +kernel
theorem dX8_power_39 : decode cX8_power 39 = .ok (.ifCond .ne 10, 3) := by decide +kernel
theorem dX8_power_42 : decode cX8_power 42 = .ok (.aload_n 0, 1) := by decide +kernel
theorem dX8_power_43 : decode cX8_power 43 = .ok (.bipush 6, 2) := by decide +kernel
theorem dX8_power_45 : decode cX8_power 45 = .ok (.invokevirtual 73, 3) := by decide +kernel
theorem dX8_power_48 : decode cX8_power 48 = .ok (.ireturn, 1) := by decide +kernel
theorem dX8_power_49 : decode cX8_power 49 = .ok (.aload_n 0, 1) := by decide +kernel
theorem dX8_power_50 : decode cX8_power 50 = .ok (.getfield 10, 3) := by decide +kernel
theorem dX8_power_53 : decode cX8_power 53 = .ok (.iload_n 1, 1) := by decide +kernel
theorem dX8_power_54 : decode cX8_power 54 = .ok (.iload_n 2, 1) := by decide +kernel
theorem dX8_power_55 : decode cX8_power 55 = .ok (.invokestatic 308, 3) := by decide +kernel
theorem dX8_power_58 : decode cX8_power 58 = .ok (.ireturn, 1) := by decide +kernel
theorem dX8_carries_0 : decode cX8_carries 0 = .ok (.aload_n 0, 1) := by decide +kernel
theorem dX8_carries_1 : decode cX8_carries 1 = .ok (.getfield 10, 3) := by decide +kernel
theorem dX8_carries_4 : decode cX8_carries 4 = .ok (.iload_n 1, 1) := by decide +kernel
theorem dX8_carries_5 : decode cX8_carries 5 = .ok (.invokevirtual 305, 3) := by decide +kernel
theorem dX8_carries_8 : decode cX8_carries 8 = .ok (.ifCond .ne 10, 3) := by decide +kernel
theorem dX8_carries_11 : decode cX8_carries 11 = .ok (.aload_n 0, 1) := by decide +kernel
theorem dX8_carries_12 : decode cX8_carries 12 = .ok (.bipush 6, 2) := by decide +kernel
theorem dX8_carries_14 : decode cX8_carries 14 = .ok (.invokevirtual 73, 3) := by decide +kernel
theorem dX8_carries_17 : decode cX8_carries 17 = .ok (.ireturn, 1) := by decide +kernel
theorem dX8_carries_18 : decode cX8_carries 18 = .ok (.aload_n 0, 1) := by decide +kernel
theorem dX8_carries_19 : decode cX8_carries 19 = .ok (.getfield 10, 3) := by decide +kernel
theorem dX8_carries_22 : decode cX8_carries 22 = .ok (.iload_n 1, 1) := by decide +kernel
theorem dX8_carries_23 : decode cX8_carries 23 = .ok (.invokestatic 314, 3) := by decide +kernel
theorem dX8_carries_26 : decode cX8_carries 26 = .ok (.ireturn, 1) := by decide +kernel
theorem dX8_bell_0 : decode cX8_bell 0 = .ok (.aload_n 0, 1) := by decide +kernel
theorem dX8_bell_1 : decode cX8_bell 1 = .ok (.getfield 10, 3) := by decide +kernel
theorem dX8_bell_4 : decode cX8_bell 4 = .ok (.iload_n 1, 1) := by decide +kernel
theorem dX8_bell_5 : decode cX8_bell 5 = .ok (.invokevirtual 120, 3) := by decide +kernel
theorem dX8_bell_8 : decode cX8_bell 8 = .ok (.ifCond .ne 9, 3) := by decide +kernel
theorem dX8_bell_11 : decode cX8_bell 11 = .ok (.aload_n 0, 1) := by decide +kernel
theorem dX8_bell_12 : decode cX8_bell 12 = .ok (.iconst 1, 1) := by decide +kernel
theorem dX8_bell_13 : decode cX8_bell 13 = .ok (.invokevirtual 249, 3) := by decide +kernel
theorem dX8_bell_16 : decode cX8_bell 16 = .ok (.ireturn, 1) := by decide +kernel
theorem dX8_bell_17 : decode cX8_bell 17 = .ok (.iconst (-1), 1) := by decide +kernel
theorem dX8_bell_18 : decode cX8_bell 18 = .ok (.istore_n 2, 1) := by decide +kernel
theorem dX8_bell_19 : decode cX8_bell 19 = .ok (.bipush 8, 2) := by decide +kernel
theorem dX8_bell_21 : decode cX8_bell 21 = .ok (.istore_n 3, 1) := by decide +kernel
theorem dX8_bell_22 : decode cX8_bell 22 = .ok (.iconst 0, 1) := by decide +kernel
theorem dX8_bell_23 : decode cX8_bell 23 = .ok (.istore 4, 2) := by decide +kernel
theorem dX8_bell_25 : decode cX8_bell 25 = .ok (.iload 4, 2) := by decide +kernel
theorem dX8_bell_27 : decode cX8_bell 27 = .ok (.bipush 40, 2) := by decide +kernel
theorem dX8_bell_29 : decode cX8_bell 29 = .ok (.if_icmp .gt 47, 3) := by decide +kernel
theorem dX8_bell_32 : decode cX8_bell 32 = .ok (.aload_n 0, 1) := by decide +kernel
theorem dX8_bell_33 : decode cX8_bell 33 = .ok (.getfield 10, 3) := by decide +kernel
theorem dX8_bell_36 : decode cX8_bell 36 = .ok (.iload 4, 2) := by decide +kernel
theorem dX8_bell_38 : decode cX8_bell 38 = .ok (.invokevirtual 238, 3) := by decide +kernel
theorem dX8_bell_41 : decode cX8_bell 41 = .ok (.istore 5, 2) := by decide +kernel
theorem dX8_bell_43 : decode cX8_bell 43 = .ok (.iload 5, 2) := by decide +kernel
theorem dX8_bell_45 : decode cX8_bell 45 = .ok (.iload_n 1, 1) := by decide +kernel
theorem dX8_bell_46 : decode cX8_bell 46 = .ok (.invokestatic 263, 3) := by decide +kernel
theorem dX8_bell_49 : decode cX8_bell 49 = .ok (.ifCond .eq 21, 3) := by decide +kernel
theorem dX8_bell_52 : decode cX8_bell 52 = .ok (.iload 5, 2) := by decide +kernel
theorem dX8_bell_54 : decode cX8_bell 54 = .ok (.invokestatic 318, 3) := by decide +kernel
theorem dX8_bell_57 : decode cX8_bell 57 = .ok (.iload_n 3, 1) := by decide +kernel
theorem dX8_bell_58 : decode cX8_bell 58 = .ok (.if_icmp .ge 12, 3) := by decide +kernel
theorem dX8_bell_61 : decode cX8_bell 61 = .ok (.iload 4, 2) := by decide +kernel
theorem dX8_bell_63 : decode cX8_bell 63 = .ok (.istore_n 2, 1) := by decide +kernel
theorem dX8_bell_64 : decode cX8_bell 64 = .ok (.iload 5, 2) := by decide +kernel
theorem dX8_bell_66 : decode cX8_bell 66 = .ok (.invokestatic 318, 3) := by decide +kernel
theorem dX8_bell_69 : decode cX8_bell 69 = .ok (.istore_n 3, 1) := by decide +kernel
theorem dX8_bell_70 : decode cX8_bell 70 = .ok (.iinc 4 1, 3) := by decide +kernel
theorem dX8_bell_73 : decode cX8_bell 73 = .ok (.goto (-48), 3) := by decide +kernel
theorem dX8_bell_76 : decode cX8_bell 76 = .ok (.iload_n 2, 1) := by decide +kernel
theorem dX8_bell_77 : decode cX8_bell 77 = .ok (.ireturn, 1) := by decide +kernel
theorem dX8_crowd_0 : decode cX8_crowd 0 = .ok (.iload_n 2, 1) := by decide +kernel
theorem dX8_crowd_1 : decode cX8_crowd 1 = .ok (.ifCond .eq 14, 3) := by decide +kernel
theorem dX8_crowd_4 : decode cX8_crowd 4 = .ok (.iload_n 2, 1) := by decide +kernel
theorem dX8_crowd_5 : decode cX8_crowd 5 = .ok (.iconst 1, 1) := by decide +kernel
theorem dX8_crowd_6 : decode cX8_crowd 6 = .ok (.if_icmp .eq 9, 3) := by decide +kernel
theorem dX8_crowd_9 : decode cX8_crowd 9 = .ok (.aload_n 0, 1) := by decide +kernel
theorem dX8_crowd_10 : decode cX8_crowd 10 = .ok (.iconst 5, 1) := by decide +kernel
theorem dX8_crowd_11 : decode cX8_crowd 11 = .ok (.invokevirtual 249, 3) := by decide +kernel
theorem dX8_crowd_14 : decode cX8_crowd 14 = .ok (.ireturn, 1) := by decide +kernel
theorem dX8_crowd_15 : decode cX8_crowd 15 = .ok (.iload_n 1, 1) := by decide +kernel
theorem dX8_crowd_16 : decode cX8_crowd 16 = .ok (.invokestatic 245, 3) := by decide +kernel
theorem dX8_crowd_19 : decode cX8_crowd 19 = .ok (.ifCond .ne 10, 3) := by decide +kernel
theorem dX8_crowd_22 : decode cX8_crowd 22 = .ok (.aload_n 0, 1) := by decide +kernel
theorem dX8_crowd_23 : decode cX8_crowd 23 = .ok (.bipush 6, 2) := by decide +kernel
theorem dX8_crowd_25 : decode cX8_crowd 25 = .ok (.invokevirtual 249, 3) := by decide +kernel
theorem dX8_crowd_28 : decode cX8_crowd 28 = .ok (.ireturn, 1) := by decide +kernel
theorem dX8_crowd_29 : decode cX8_crowd 29 = .ok (.aload_n 0, 1) := by decide +kernel
theorem dX8_crowd_30 : decode cX8_crowd 30 = .ok (.iload_n 1, 1) := by decide +kernel
theorem dX8_crowd_31 : decode cX8_crowd 31 = .ok (.invokevirtual 231, 3) := by decide +kernel
theorem dX8_crowd_34 : decode cX8_crowd 34 = .ok (.iload_n 2, 1) := by decide +kernel
theorem dX8_crowd_35 : decode cX8_crowd 35 = .ok (.ifCond .ne 17, 3) := by decide +kernel
theorem dX8_crowd_38 : decode cX8_crowd 38 = .ok (.aload_n 0, 1) := by decide +kernel
theorem dX8_crowd_39 : decode cX8_crowd 39 = .ok (.getfield 42, 3) := by decide +kernel
theorem dX8_crowd_42 : decode cX8_crowd 42 = .ok (.aload_n 0, 1) := by decide +kernel
theorem dX8_crowd_43 : decode cX8_crowd 43 = .ok (.getfield 10, 3) := by decide +kernel
theorem dX8_crowd_46 : decode cX8_crowd 46 = .ok (.invokevirtual 322, 3) := by decide +kernel
theorem dX8_crowd_49 : decode cX8_crowd 49 = .ok (.goto 19, 3) := by decide +kernel
theorem dX8_crowd_52 : decode cX8_crowd 52 = .ok (.aload_n 0, 1) := by decide +kernel
theorem dX8_crowd_53 : decode cX8_crowd 53 = .ok (.getfield 42, 3) := by decide +kernel
theorem dX8_crowd_56 : decode cX8_crowd 56 = .ok (.aload_n 0, 1) := by decide +kernel
theorem dX8_crowd_57 : decode cX8_crowd 57 = .ok (.getfield 10, 3) := by decide +kernel
theorem dX8_crowd_60 : decode cX8_crowd 60 = .ok (.aload_n 0, 1) := by decide +kernel
theorem dX8_crowd_61 : decode cX8_crowd 61 = .ok (.getfield 35, 3) := by decide +kernel
theorem dX8_crowd_64 : decode cX8_crowd 64 = .ok (.iconst 0, 1) := by decide +kernel
theorem dX8_crowd_65 : decode cX8_crowd 65 = .ok (.invokevirtual 326, 3) := by decide +kernel
theorem dX8_crowd_68 : decode cX8_crowd 68 = .ok (.ireturn, 1) := by decide +kernel
theorem dX8_judge_0 : decode cX8_judge 0 = .ok (.aload_n 0, 1) := by decide +kernel
theorem dX8_judge_1 : decode cX8_judge 1 = .ok (.iload_n 1, 1) := by decide +kernel
theorem dX8_judge_2 : decode cX8_judge 2 = .ok (.invokevirtual 81, 3) := by decide +kernel
theorem dX8_judge_5 : decode cX8_judge 5 = .ok (.istore 4, 2) := by decide +kernel
theorem dX8_judge_7 : decode cX8_judge 7 = .ok (.iload 4, 2) := by decide +kernel
theorem dX8_judge_9 : decode cX8_judge 9 = .ok (.ifCond .eq 10, 3) := by decide +kernel
theorem dX8_judge_12 : decode cX8_judge 12 = .ok (.aload_n 0, 1) := by decide +kernel
theorem dX8_judge_13 : decode cX8_judge 13 = .ok (.iload 4, 2) := by decide +kernel
theorem dX8_judge_15 : decode cX8_judge 15 = .ok (.invokevirtual 249, 3) := by decide +kernel
theorem dX8_judge_18 : decode cX8_judge 18 = .ok (.ireturn, 1) := by decide +kernel
theorem dX8_judge_19 : decode cX8_judge 19 = .ok (.iload_n 2, 1) := by decide +kernel
theorem dX8_judge_20 : decode cX8_judge 20 = .ok (.ifCond .ge 9, 3) := by decide +kernel
theorem dX8_judge_23 : decode cX8_judge 23 = .ok (.aload_n 0, 1) := by decide +kernel
theorem dX8_judge_24 : decode cX8_judge 24 = .ok (.iconst 4, 1) := by decide +kernel
theorem dX8_judge_25 : decode cX8_judge 25 = .ok (.invokevirtual 249, 3) := by decide +kernel
theorem dX8_judge_28 : decode cX8_judge 28 = .ok (.ireturn, 1) := by decide +kernel
theorem dX8_judge_29 : decode cX8_judge 29 = .ok (.iload_n 2, 1) := by decide +kernel
theorem dX8_judge_30 : decode cX8_judge 30 = .ok (.aload_n 0, 1) := by decide +kernel
theorem dX8_judge_31 : decode cX8_judge 31 = .ok (.getfield 24, 3) := by decide +kernel
theorem dX8_judge_34 : decode cX8_judge 34 = .ok (.iload_n 1, 1) := by decide +kernel
theorem dX8_judge_35 : decode cX8_judge 35 = .ok (.aaload, 1) := by decide +kernel
theorem dX8_judge_36 : decode cX8_judge 36 = .ok (.getfield 266, 3) := by decide +kernel
theorem dX8_judge_39 : decode cX8_judge 39 = .ok (.if_icmp .le 9, 3) := by decide +kernel
theorem dX8_judge_42 : decode cX8_judge 42 = .ok (.aload_n 0, 1) := by decide +kernel
theorem dX8_judge_43 : decode cX8_judge 43 = .ok (.iconst 5, 1) := by decide +kernel
theorem dX8_judge_44 : decode cX8_judge 44 = .ok (.invokevirtual 249, 3) := by decide +kernel
theorem dX8_judge_47 : decode cX8_judge 47 = .ok (.ireturn, 1) := by decide +kernel
theorem dX8_judge_48 : decode cX8_judge 48 = .ok (.iload_n 3, 1) := by decide +kernel
theorem dX8_judge_49 : decode cX8_judge 49 = .ok (.invokestatic 245, 3) := by decide +kernel
theorem dX8_judge_52 : decode cX8_judge 52 = .ok (.ifCond .eq 14, 3) := by decide +kernel
theorem dX8_judge_55 : decode cX8_judge 55 = .ok (.iload_n 2, 1) := by decide +kernel
theorem dX8_judge_56 : decode cX8_judge 56 = .ok (.aload_n 0, 1) := by decide +kernel
theorem dX8_judge_57 : decode cX8_judge 57 = .ok (.getfield 10, 3) := by decide +kernel
theorem dX8_judge_60 : decode cX8_judge 60 = .ok (.getfield 329, 3) := by decide +kernel
theorem dX8_judge_63 : decode cX8_judge 63 = .ok (.if_icmp .le 10, 3) := by decide +kernel
theorem dX8_judge_66 : decode cX8_judge 66 = .ok (.aload_n 0, 1) := by decide +kernel
theorem dX8_judge_67 : decode cX8_judge 67 = .ok (.bipush 6, 2) := by decide +kernel
theorem dX8_judge_69 : decode cX8_judge 69 = .ok (.invokevirtual 249, 3) := by decide +kernel
theorem dX8_judge_72 : decode cX8_judge 72 = .ok (.ireturn, 1) := by decide +kernel
theorem dX8_judge_73 : decode cX8_judge 73 = .ok (.aload_n 0, 1) := by decide +kernel
theorem dX8_judge_74 : decode cX8_judge 74 = .ok (.iload_n 3, 1) := by decide +kernel
theorem dX8_judge_75 : decode cX8_judge 75 = .ok (.invokevirtual 231, 3) := by decide +kernel
theorem dX8_judge_78 : decode cX8_judge 78 = .ok (.iconst 0, 1) := by decide +kernel
theorem dX8_judge_79 : decode cX8_judge 79 = .ok (.istore 5, 2) := by decide +kernel
theorem dX8_judge_81 : decode cX8_judge 81 = .ok (.iload 5, 2) := by decide +kernel
theorem dX8_judge_83 : decode cX8_judge 83 = .ok (.iload_n 2, 1) := by decide +kernel
theorem dX8_judge_84 : decode cX8_judge 84 = .ok (.if_icmp .ge 36, 3) := by decide +kernel
theorem dX8_judge_87 : decode cX8_judge 87 = .ok (.aload_n 0, 1) := by decide +kernel
theorem dX8_judge_88 : decode cX8_judge 88 = .ok (.getfield 24, 3) := by decide +kernel
theorem dX8_judge_91 : decode cX8_judge 91 = .ok (.iload_n 1, 1) := by decide +kernel
theorem dX8_judge_92 : decode cX8_judge 92 = .ok (.aaload, 1) := by decide +kernel
theorem dX8_judge_93 : decode cX8_judge 93 = .ok (.iload 5, 2) := by decide +kernel
theorem dX8_judge_95 : decode cX8_judge 95 = .ok (.invokevirtual 287, 3) := by decide +kernel
theorem dX8_judge_98 : decode cX8_judge 98 = .ok (.aload_n 0, 1) := by decide +kernel
theorem dX8_judge_99 : decode cX8_judge 99 = .ok (.getfield 42, 3) := by decide +kernel
theorem dX8_judge_102 : decode cX8_judge 102 = .ok (.getfield 248, 3) := by decide +kernel
theorem dX8_judge_105 : decode cX8_judge 105 = .ok (.iload 5, 2) := by decide +kernel
theorem dX8_judge_107 : decode cX8_judge 107 = .ok (.iaload, 1) := by decide +kernel
theorem dX8_judge_108 : decode cX8_judge 108 = .ok (.if_icmp .eq 6, 3) := by decide +kernel
theorem dX8_judge_111 : decode cX8_judge 111 = .ok (.iload 5, 2) := by decide +kernel
theorem dX8_judge_113 : decode cX8_judge 113 = .ok (.ireturn, 1) := by decide +kernel
theorem dX8_judge_114 : decode cX8_judge 114 = .ok (.iinc 5 1, 3) := by decide +kernel
theorem dX8_judge_117 : decode cX8_judge 117 = .ok (.goto (-36), 3) := by decide +kernel
theorem dX8_judge_120 : decode cX8_judge 120 = .ok (.iconst (-1), 1) := by decide +kernel
theorem dX8_judge_121 : decode cX8_judge 121 = .ok (.ireturn, 1) := by decide +kernel
theorem dX8_lookAhead_0 : decode cX8_lookAhead 0 = .ok (.aload_n 0, 1) := by decide +kernel
theorem dX8_lookAhead_1 : decode cX8_lookAhead 1 = .ok (.getfield 35, 3) := by decide +kernel
theorem dX8_lookAhead_4 : decode cX8_lookAhead 4 = .ok (.aload_n 0, 1) := by decide +kernel
theorem dX8_lookAhead_5 : decode cX8_lookAhead 5 = .ok (.getfield 10, 3) := by decide +kernel
theorem dX8_lookAhead_8 : decode cX8_lookAhead 8 = .ok (.getfield 220, 3) := by decide +kernel
theorem dX8_lookAhead_11 : decode cX8_lookAhead 11 = .ok (.invokevirtual 224, 3) := by decide +kernel
theorem dX8_lookAhead_14 : decode cX8_lookAhead 14 = .ok (.aload_n 0, 1) := by decide +kernel
theorem dX8_lookAhead_15 : decode cX8_lookAhead 15 = .ok (.getfield 42, 3) := by decide +kernel
theorem dX8_lookAhead_18 : decode cX8_lookAhead 18 = .ok (.aload_n 0, 1) := by decide +kernel
theorem dX8_lookAhead_19 : decode cX8_lookAhead 19 = .ok (.getfield 10, 3) := by decide +kernel
theorem dX8_lookAhead_22 : decode cX8_lookAhead 22 = .ok (.aload_n 0, 1) := by decide +kernel
theorem dX8_lookAhead_23 : decode cX8_lookAhead 23 = .ok (.getfield 35, 3) := by decide +kernel
theorem dX8_lookAhead_26 : decode cX8_lookAhead 26 = .ok (.iload_n 1, 1) := by decide +kernel
theorem dX8_lookAhead_27 : decode cX8_lookAhead 27 = .ok (.invokevirtual 259, 3) := by decide +kernel
theorem dX8_lookAhead_30 : decode cX8_lookAhead 30 = .ok (.return_, 1) := by decide +kernel
theorem dX8_run_0 : decode cX8_run 0 = .ok (.iload_n 1, 1) := by decide +kernel
theorem dX8_run_1 : decode cX8_run 1 = .ok (.iconst 1, 1) := by decide +kernel
theorem dX8_run_2 : decode cX8_run 2 = .ok (.bipush 30, 2) := by decide +kernel
theorem dX8_run_4 : decode cX8_run 4 = .ok (.invokestatic 157, 3) := by decide +kernel
theorem dX8_run_7 : decode cX8_run 7 = .ok (.ifCond .ne 10, 3) := by decide +kernel
theorem dX8_run_10 : decode cX8_run 10 = .ok (.aload_n 0, 1) := by decide +kernel
theorem dX8_run_11 : decode cX8_run 11 = .ok (.bipush 6, 2) := by decide +kernel
theorem dX8_run_13 : decode cX8_run 13 = .ok (.invokevirtual 73, 3) := by decide +kernel
theorem dX8_run_16 : decode cX8_run 16 = .ok (.ireturn, 1) := by decide +kernel
theorem dX8_run_17 : decode cX8_run 17 = .ok (.aload_n 0, 1) := by decide +kernel
theorem dX8_run_18 : decode cX8_run 18 = .ok (.getfield 35, 3) := by decide +kernel
theorem dX8_run_21 : decode cX8_run 21 = .ok (.aload_n 0, 1) := by decide +kernel
theorem dX8_run_22 : decode cX8_run 22 = .ok (.getfield 10, 3) := by decide +kernel
theorem dX8_run_25 : decode cX8_run 25 = .ok (.getfield 220, 3) := by decide +kernel
theorem dX8_run_28 : decode cX8_run 28 = .ok (.invokevirtual 224, 3) := by decide +kernel
theorem dX8_run_31 : decode cX8_run 31 = .ok (.aload_n 0, 1) := by decide +kernel
theorem dX8_run_32 : decode cX8_run 32 = .ok (.iload_n 1, 1) := by decide +kernel
theorem dX8_run_33 : decode cX8_run 33 = .ok (.invokevirtual 332, 3) := by decide +kernel
theorem dX8_run_36 : decode cX8_run 36 = .ok (.aload_n 0, 1) := by decide +kernel
theorem dX8_run_37 : decode cX8_run 37 = .ok (.getfield 10, 3) := by decide +kernel
theorem dX8_run_40 : decode cX8_run 40 = .ok (.getfield 280, 3) := by decide +kernel
theorem dX8_run_43 : decode cX8_run 43 = .ok (.ireturn, 1) := by decide +kernel
theorem dX8_vote_0 : decode cX8_vote 0 = .ok (.aload_n 0, 1) := by decide +kernel
theorem dX8_vote_1 : decode cX8_vote 1 = .ok (.getfield 35, 3) := by decide +kernel
theorem dX8_vote_4 : decode cX8_vote 4 = .ok (.aload_n 0, 1) := by decide +kernel
theorem dX8_vote_5 : decode cX8_vote 5 = .ok (.getfield 10, 3) := by decide +kernel
theorem dX8_vote_8 : decode cX8_vote 8 = .ok (.getfield 220, 3) := by decide +kernel
theorem dX8_vote_11 : decode cX8_vote 11 = .ok (.invokevirtual 224, 3) := by decide +kernel
theorem dX8_vote_14 : decode cX8_vote 14 = .ok (.aload_n 0, 1) := by decide +kernel
theorem dX8_vote_15 : decode cX8_vote 15 = .ok (.invokevirtual 335, 3) := by decide +kernel
theorem dX8_vote_18 : decode cX8_vote 18 = .ok (.ireturn, 1) := by decide +kernel
theorem dX8_years_0 : decode cX8_years 0 = .ok (.aload_n 0, 1) := by decide +kernel
theorem dX8_years_1 : decode cX8_years 1 = .ok (.getfield 10, 3) := by decide +kernel
theorem dX8_years_4 : decode cX8_years 4 = .ok (.getfield 329, 3) := by decide +kernel
theorem dX8_years_7 : decode cX8_years 7 = .ok (.ifCond .ne 9, 3) := by decide +kernel
theorem dX8_years_10 : decode cX8_years 10 = .ok (.aload_n 0, 1) := by decide +kernel
theorem dX8_years_11 : decode cX8_years 11 = .ok (.iconst 5, 1) := by decide +kernel
theorem dX8_years_12 : decode cX8_years 12 = .ok (.invokevirtual 73, 3) := by decide +kernel
theorem dX8_years_15 : decode cX8_years 15 = .ok (.ireturn, 1) := by decide +kernel
theorem dX8_years_16 : decode cX8_years 16 = .ok (.iload_n 1, 1) := by decide +kernel
theorem dX8_years_17 : decode cX8_years 17 = .ok (.iconst 1, 1) := by decide +kernel
theorem dX8_years_18 : decode cX8_years 18 = .ok (.bipush 40, 2) := by decide +kernel
theorem dX8_years_20 : decode cX8_years 20 = .ok (.invokestatic 157, 3) := by decide +kernel
theorem dX8_years_23 : decode cX8_years 23 = .ok (.ifCond .ne 10, 3) := by decide +kernel
theorem dX8_years_26 : decode cX8_years 26 = .ok (.aload_n 0, 1) := by decide +kernel
theorem dX8_years_27 : decode cX8_years 27 = .ok (.bipush 6, 2) := by decide +kernel
theorem dX8_years_29 : decode cX8_years 29 = .ok (.invokevirtual 73, 3) := by decide +kernel
theorem dX8_years_32 : decode cX8_years 32 = .ok (.ireturn, 1) := by decide +kernel
theorem dX8_years_33 : decode cX8_years 33 = .ok (.aload_n 0, 1) := by decide +kernel
theorem dX8_years_34 : decode cX8_years 34 = .ok (.getfield 35, 3) := by decide +kernel
theorem dX8_years_37 : decode cX8_years 37 = .ok (.aload_n 0, 1) := by decide +kernel
theorem dX8_years_38 : decode cX8_years 38 = .ok (.getfield 10, 3) := by decide +kernel
theorem dX8_years_41 : decode cX8_years 41 = .ok (.getfield 220, 3) := by decide +kernel
theorem dX8_years_44 : decode cX8_years 44 = .ok (.invokevirtual 224, 3) := by decide +kernel
theorem dX8_years_47 : decode cX8_years 47 = .ok (.iconst 0, 1) := by decide +kernel
theorem dX8_years_48 : decode cX8_years 48 = .ok (.istore_n 2, 1) := by decide +kernel
theorem dX8_years_49 : decode cX8_years 49 = .ok (.iload_n 2, 1) := by decide +kernel
theorem dX8_years_50 : decode cX8_years 50 = .ok (.iload_n 1, 1) := by decide +kernel
theorem dX8_years_51 : decode cX8_years 51 = .ok (.if_icmp .ge 61, 3) := by decide +kernel
theorem dX8_years_54 : decode cX8_years 54 = .ok (.aload_n 0, 1) := by decide +kernel
theorem dX8_years_55 : decode cX8_years 55 = .ok (.getfield 10, 3) := by decide +kernel
theorem dX8_years_58 : decode cX8_years 58 = .ok (.aload_n 0, 1) := by decide +kernel
theorem dX8_years_59 : decode cX8_years 59 = .ok (.getfield 10, 3) := by decide +kernel
theorem dX8_years_62 : decode cX8_years 62 = .ok (.getfield 329, 3) := by decide +kernel
theorem dX8_years_65 : decode cX8_years 65 = .ok (.invokevirtual 338, 3) := by decide +kernel
theorem dX8_years_68 : decode cX8_years 68 = .ok (.istore_n 3, 1) := by decide +kernel
theorem dX8_years_69 : decode cX8_years 69 = .ok (.aload_n 0, 1) := by decide +kernel
theorem dX8_years_70 : decode cX8_years 70 = .ok (.getfield 10, 3) := by decide +kernel
theorem dX8_years_73 : decode cX8_years 73 = .ok (.getfield 151, 3) := by decide +kernel
theorem dX8_years_76 : decode cX8_years 76 = .ok (.iload_n 3, 1) := by decide +kernel
theorem dX8_years_77 : decode cX8_years 77 = .ok (.aload_n 0, 1) := by decide +kernel
theorem dX8_years_78 : decode cX8_years 78 = .ok (.getfield 10, 3) := by decide +kernel
theorem dX8_years_81 : decode cX8_years 81 = .ok (.bipush 21, 2) := by decide +kernel
theorem dX8_years_83 : decode cX8_years 83 = .ok (.invokevirtual 338, 3) := by decide +kernel
theorem dX8_years_86 : decode cX8_years 86 = .ok (.iastore, 1) := by decide +kernel
theorem dX8_years_87 : decode cX8_years 87 = .ok (.aload_n 0, 1) := by decide +kernel
theorem dX8_years_88 : decode cX8_years 88 = .ok (.aload_n 0, 1) := by decide +kernel
theorem dX8_years_89 : decode cX8_years 89 = .ok (.getfield 10, 3) := by decide +kernel
theorem dX8_years_92 : decode cX8_years 92 = .ok (.iconst 5, 1) := by decide +kernel
theorem dX8_years_93 : decode cX8_years 93 = .ok (.invokevirtual 338, 3) := by decide +kernel
theorem dX8_years_96 : decode cX8_years 96 = .ok (.iconst 1, 1) := by decide +kernel
theorem dX8_years_97 : decode cX8_years 97 = .ok (.iadd, 1) := by decide +kernel
theorem dX8_years_98 : decode cX8_years 98 = .ok (.invokevirtual 332, 3) := by decide +kernel
theorem dX8_years_101 : decode cX8_years 101 = .ok (.aload_n 0, 1) := by decide +kernel
theorem dX8_years_102 : decode cX8_years 102 = .ok (.invokevirtual 335, 3) := by decide +kernel
theorem dX8_years_105 : decode cX8_years 105 = .ok (.pop, 1) := by decide +kernel
theorem dX8_years_106 : decode cX8_years 106 = .ok (.iinc 2 1, 3) := by decide +kernel
theorem dX8_years_109 : decode cX8_years 109 = .ok (.goto (-60), 3) := by decide +kernel
theorem dX8_years_112 : decode cX8_years 112 = .ok (.aload_n 0, 1) := by decide +kernel
theorem dX8_years_113 : decode cX8_years 113 = .ok (.getfield 10, 3) := by decide +kernel
theorem dX8_years_116 : decode cX8_years 116 = .ok (.getfield 341, 3) := by decide +kernel
theorem dX8_years_119 : decode cX8_years 119 = .ok (.ireturn, 1) := by decide +kernel
theorem dX8_passYards_0 : decode cX8_passYards 0 = .ok (.aload_n 0, 1) := by decide +kernel
theorem dX8_passYards_1 : decode cX8_passYards 1 = .ok (.getfield 42, 3) := by decide +kernel
theorem dX8_passYards_4 : decode cX8_passYards 4 = .ok (.aload_n 0, 1) := by decide +kernel
theorem dX8_passYards_5 : decode cX8_passYards 5 = .ok (.getfield 10, 3) := by decide +kernel
theorem dX8_passYards_8 : decode cX8_passYards 8 = .ok (.aload_n 0, 1) := by decide +kernel
theorem dX8_passYards_9 : decode cX8_passYards 9 = .ok (.getfield 35, 3) := by decide +kernel
theorem dX8_passYards_12 : decode cX8_passYards 12 = .ok (.iload_n 1, 1) := by decide +kernel
theorem dX8_passYards_13 : decode cX8_passYards 13 = .ok (.invokevirtual 259, 3) := by decide +kernel
theorem dX8_passYards_16 : decode cX8_passYards 16 = .ok (.iconst 0, 1) := by decide +kernel
theorem dX8_passYards_17 : decode cX8_passYards 17 = .ok (.istore_n 2, 1) := by decide +kernel
theorem dX8_passYards_18 : decode cX8_passYards 18 = .ok (.iload_n 2, 1) := by decide +kernel
theorem dX8_passYards_19 : decode cX8_passYards 19 = .ok (.aload_n 0, 1) := by decide +kernel
theorem dX8_passYards_20 : decode cX8_passYards 20 = .ok (.getfield 10, 3) := by decide +kernel
theorem dX8_passYards_23 : decode cX8_passYards 23 = .ok (.getfield 329, 3) := by decide +kernel
theorem dX8_passYards_26 : decode cX8_passYards 26 = .ok (.if_icmp .ge 27, 3) := by decide +kernel
theorem dX8_passYards_29 : decode cX8_passYards 29 = .ok (.aload_n 0, 1) := by decide +kernel
theorem dX8_passYards_30 : decode cX8_passYards 30 = .ok (.getfield 10, 3) := by decide +kernel
theorem dX8_passYards_33 : decode cX8_passYards 33 = .ok (.getfield 145, 3) := by decide +kernel
theorem dX8_passYards_36 : decode cX8_passYards 36 = .ok (.iload_n 2, 1) := by decide +kernel
theorem dX8_passYards_37 : decode cX8_passYards 37 = .ok (.aload_n 0, 1) := by decide +kernel
theorem dX8_passYards_38 : decode cX8_passYards 38 = .ok (.getfield 42, 3) := by decide +kernel
theorem dX8_passYards_41 : decode cX8_passYards 41 = .ok (.getfield 248, 3) := by decide +kernel
theorem dX8_passYards_44 : decode cX8_passYards 44 = .ok (.iload_n 2, 1) := by decide +kernel
theorem dX8_passYards_45 : decode cX8_passYards 45 = .ok (.iaload, 1) := by decide +kernel
theorem dX8_passYards_46 : decode cX8_passYards 46 = .ok (.iastore, 1) := by decide +kernel
theorem dX8_passYards_47 : decode cX8_passYards 47 = .ok (.iinc 2 1, 3) := by decide +kernel
theorem dX8_passYards_50 : decode cX8_passYards 50 = .ok (.goto (-32), 3) := by decide +kernel
theorem dX8_passYards_53 : decode cX8_passYards 53 = .ok (.aload_n 0, 1) := by decide +kernel
theorem dX8_passYards_54 : decode cX8_passYards 54 = .ok (.getfield 10, 3) := by decide +kernel
theorem dX8_passYards_57 : decode cX8_passYards 57 = .ok (.dup, 1) := by decide +kernel
theorem dX8_passYards_58 : decode cX8_passYards 58 = .ok (.getfield 280, 3) := by decide +kernel
theorem dX8_passYards_61 : decode cX8_passYards 61 = .ok (.iload_n 1, 1) := by decide +kernel
theorem dX8_passYards_62 : decode cX8_passYards 62 = .ok (.iadd, 1) := by decide +kernel
theorem dX8_passYards_63 : decode cX8_passYards 63 = .ok (.putfield 280, 3) := by decide +kernel
theorem dX8_passYards_66 : decode cX8_passYards 66 = .ok (.return_, 1) := by decide +kernel
theorem dX8_holdVote_0 : decode cX8_holdVote 0 = .ok (.aload_n 0, 1) := by decide +kernel
theorem dX8_holdVote_1 : decode cX8_holdVote 1 = .ok (.getfield 42, 3) := by decide +kernel
theorem dX8_holdVote_4 : decode cX8_holdVote 4 = .ok (.aload_n 0, 1) := by decide +kernel
theorem dX8_holdVote_5 : decode cX8_holdVote 5 = .ok (.getfield 10, 3) := by decide +kernel
theorem dX8_holdVote_8 : decode cX8_holdVote 8 = .ok (.aload_n 0, 1) := by decide +kernel
theorem dX8_holdVote_9 : decode cX8_holdVote 9 = .ok (.getfield 35, 3) := by decide +kernel
theorem dX8_holdVote_12 : decode cX8_holdVote 12 = .ok (.iconst 0, 1) := by decide +kernel
theorem dX8_holdVote_13 : decode cX8_holdVote 13 = .ok (.invokevirtual 259, 3) := by decide +kernel
theorem dX8_holdVote_16 : decode cX8_holdVote 16 = .ok (.aload_n 0, 1) := by decide +kernel
theorem dX8_holdVote_17 : decode cX8_holdVote 17 = .ok (.getfield 42, 3) := by decide +kernel
theorem dX8_holdVote_20 : decode cX8_holdVote 20 = .ok (.aload_n 0, 1) := by decide +kernel
theorem dX8_holdVote_21 : decode cX8_holdVote 21 = .ok (.getfield 10, 3) := by decide +kernel
theorem dX8_holdVote_24 : decode cX8_holdVote 24 = .ok (.aload_n 0, 1) := by decide +kernel
theorem dX8_holdVote_25 : decode cX8_holdVote 25 = .ok (.getfield 35, 3) := by decide +kernel
theorem dX8_holdVote_28 : decode cX8_holdVote 28 = .ok (.iconst 0, 1) := by decide +kernel
theorem dX8_holdVote_29 : decode cX8_holdVote 29 = .ok (.invokevirtual 234, 3) := by decide +kernel
theorem dX8_holdVote_32 : decode cX8_holdVote 32 = .ok (.istore_n 1, 1) := by decide +kernel
theorem dX8_holdVote_33 : decode cX8_holdVote 33 = .ok (.iconst 0, 1) := by decide +kernel
theorem dX8_holdVote_34 : decode cX8_holdVote 34 = .ok (.istore_n 2, 1) := by decide +kernel
theorem dX8_holdVote_35 : decode cX8_holdVote 35 = .ok (.iload_n 2, 1) := by decide +kernel
theorem dX8_holdVote_36 : decode cX8_holdVote 36 = .ok (.aload_n 0, 1) := by decide +kernel
theorem dX8_holdVote_37 : decode cX8_holdVote 37 = .ok (.getfield 10, 3) := by decide +kernel
theorem dX8_holdVote_40 : decode cX8_holdVote 40 = .ok (.getfield 329, 3) := by decide +kernel
theorem dX8_holdVote_43 : decode cX8_holdVote 43 = .ok (.if_icmp .ge 41, 3) := by decide +kernel
theorem dX8_holdVote_46 : decode cX8_holdVote 46 = .ok (.iload_n 1, 1) := by decide +kernel
theorem dX8_holdVote_47 : decode cX8_holdVote 47 = .ok (.iload_n 2, 1) := by decide +kernel
theorem dX8_holdVote_48 : decode cX8_holdVote 48 = .ok (.invokestatic 263, 3) := by decide +kernel
theorem dX8_holdVote_51 : decode cX8_holdVote 51 = .ok (.ifCond .eq 27, 3) := by decide +kernel
theorem dX8_holdVote_54 : decode cX8_holdVote 54 = .ok (.aload_n 0, 1) := by decide +kernel
theorem dX8_holdVote_55 : decode cX8_holdVote 55 = .ok (.getfield 10, 3) := by decide +kernel
theorem dX8_holdVote_58 : decode cX8_holdVote 58 = .ok (.getfield 194, 3) := by decide +kernel
theorem dX8_holdVote_61 : decode cX8_holdVote 61 = .ok (.iload_n 2, 1) := by decide +kernel
theorem dX8_holdVote_62 : decode cX8_holdVote 62 = .ok (.dup2, 1) := by decide +kernel
theorem dX8_holdVote_63 : decode cX8_holdVote 63 = .ok (.iaload, 1) := by decide +kernel
theorem dX8_holdVote_64 : decode cX8_holdVote 64 = .ok (.iconst 1, 1) := by decide +kernel
theorem dX8_holdVote_65 : decode cX8_holdVote 65 = .ok (.iadd, 1) := by decide +kernel
theorem dX8_holdVote_66 : decode cX8_holdVote 66 = .ok (.iastore, 1) := by decide +kernel
theorem dX8_holdVote_67 : decode cX8_holdVote 67 = .ok (.aload_n 0, 1) := by decide +kernel
theorem dX8_holdVote_68 : decode cX8_holdVote 68 = .ok (.getfield 10, 3) := by decide +kernel
theorem dX8_holdVote_71 : decode cX8_holdVote 71 = .ok (.getfield 145, 3) := by decide +kernel
theorem dX8_holdVote_74 : decode cX8_holdVote 74 = .ok (.iload_n 2, 1) := by decide +kernel
theorem dX8_holdVote_75 : decode cX8_holdVote 75 = .ok (.bipush 24, 2) := by decide +kernel
theorem dX8_holdVote_77 : decode cX8_holdVote 77 = .ok (.iastore, 1) := by decide +kernel
theorem dX8_holdVote_78 : decode cX8_holdVote 78 = .ok (.iinc 2 1, 3) := by decide +kernel
theorem dX8_holdVote_81 : decode cX8_holdVote 81 = .ok (.goto (-46), 3) := by decide +kernel
theorem dX8_holdVote_84 : decode cX8_holdVote 84 = .ok (.aload_n 0, 1) := by decide +kernel
theorem dX8_holdVote_85 : decode cX8_holdVote 85 = .ok (.getfield 10, 3) := by decide +kernel
theorem dX8_holdVote_88 : decode cX8_holdVote 88 = .ok (.dup, 1) := by decide +kernel
theorem dX8_holdVote_89 : decode cX8_holdVote 89 = .ok (.getfield 341, 3) := by decide +kernel
theorem dX8_holdVote_92 : decode cX8_holdVote 92 = .ok (.iconst 1, 1) := by decide +kernel
theorem dX8_holdVote_93 : decode cX8_holdVote 93 = .ok (.iadd, 1) := by decide +kernel
theorem dX8_holdVote_94 : decode cX8_holdVote 94 = .ok (.putfield 341, 3) := by decide +kernel
theorem dX8_holdVote_97 : decode cX8_holdVote 97 = .ok (.iload_n 1, 1) := by decide +kernel
theorem dX8_holdVote_98 : decode cX8_holdVote 98 = .ok (.ireturn, 1) := by decide +kernel
theorem dX8_seed_0 : decode cX8_seed 0 = .ok (.aload_n 0, 1) := by decide +kernel
theorem dX8_seed_1 : decode cX8_seed 1 = .ok (.getfield 10, 3) := by decide +kernel
theorem dX8_seed_4 : decode cX8_seed 4 = .ok (.getfield 344, 3) := by decide +kernel
theorem dX8_seed_7 : decode cX8_seed 7 = .ok (.istore_n 2, 1) := by decide +kernel
theorem dX8_seed_8 : decode cX8_seed 8 = .ok (.aload_n 0, 1) := by decide +kernel
theorem dX8_seed_9 : decode cX8_seed 9 = .ok (.getfield 10, 3) := by decide +kernel
theorem dX8_seed_12 : decode cX8_seed 12 = .ok (.iload_n 1, 1) := by decide +kernel
theorem dX8_seed_13 : decode cX8_seed 13 = .ok (.putfield 344, 3) := by decide +kernel
theorem dX8_seed_16 : decode cX8_seed 16 = .ok (.iload_n 2, 1) := by decide +kernel
theorem dX8_seed_17 : decode cX8_seed 17 = .ok (.ireturn, 1) := by decide +kernel
theorem dX8_act_0 : decode cX8_act 0 = .ok (.aload_n 0, 1) := by decide +kernel
theorem dX8_act_1 : decode cX8_act 1 = .ok (.getfield 56, 3) := by decide +kernel
theorem dX8_act_4 : decode cX8_act 4 = .ok (.invokevirtual 347, 3) := by decide +kernel
theorem dX8_act_7 : decode cX8_act 7 = .ok (.aload_n 0, 1) := by decide +kernel
theorem dX8_act_8 : decode cX8_act 8 = .ok (.getfield 10, 3) := by decide +kernel
theorem dX8_act_11 : decode cX8_act 11 = .ok (.iload_n 1, 1) := by decide +kernel
theorem dX8_act_12 : decode cX8_act 12 = .ok (.invokevirtual 120, 3) := by decide +kernel
theorem dX8_act_15 : decode cX8_act 15 = .ok (.ifCond .eq 12, 3) := by decide +kernel
theorem dX8_act_18 : decode cX8_act 18 = .ok (.iload_n 2, 1) := by decide +kernel
theorem dX8_act_19 : decode cX8_act 19 = .ok (.iconst 0, 1) := by decide +kernel
theorem dX8_act_20 : decode cX8_act 20 = .ok (.iconst 2, 1) := by decide +kernel
theorem dX8_act_21 : decode cX8_act 21 = .ok (.invokestatic 157, 3) := by decide +kernel
theorem dX8_act_24 : decode cX8_act 24 = .ok (.ifCond .ne 5, 3) := by decide +kernel
theorem dX8_act_27 : decode cX8_act 27 = .ok (.iconst 0, 1) := by decide +kernel
theorem dX8_act_28 : decode cX8_act 28 = .ok (.ireturn, 1) := by decide +kernel
theorem dX8_act_29 : decode cX8_act 29 = .ok (.aload_n 0, 1) := by decide +kernel
theorem dX8_act_30 : decode cX8_act 30 = .ok (.getfield 56, 3) := by decide +kernel
theorem dX8_act_33 : decode cX8_act 33 = .ok (.aload_n 0, 1) := by decide +kernel
theorem dX8_act_34 : decode cX8_act 34 = .ok (.getfield 10, 3) := by decide +kernel
theorem dX8_act_37 : decode cX8_act 37 = .ok (.iload_n 1, 1) := by decide +kernel
theorem dX8_act_38 : decode cX8_act 38 = .ok (.iload_n 2, 1) := by decide +kernel
theorem dX8_act_39 : decode cX8_act 39 = .ok (.iload_n 3, 1) := by decide +kernel
theorem dX8_act_40 : decode cX8_act 40 = .ok (.invokevirtual 350, 3) := by decide +kernel
theorem dX8_act_43 : decode cX8_act 43 = .ok (.ireturn, 1) := by decide +kernel
theorem dX8_trace_0 : decode cX8_trace 0 = .ok (.aload_n 0, 1) := by decide +kernel
theorem dX8_trace_1 : decode cX8_trace 1 = .ok (.getfield 56, 3) := by decide +kernel
theorem dX8_trace_4 : decode cX8_trace 4 = .ok (.iload_n 1, 1) := by decide +kernel
theorem dX8_trace_5 : decode cX8_trace 5 = .ok (.invokevirtual 354, 3) := by decide +kernel
theorem dX8_trace_8 : decode cX8_trace 8 = .ok (.ireturn, 1) := by decide +kernel
theorem dX8_image_0 : decode cX8_image 0 = .ok (.aload_n 0, 1) := by decide +kernel
theorem dX8_image_1 : decode cX8_image 1 = .ok (.getfield 19, 3) := by decide +kernel
theorem dX8_image_4 : decode cX8_image 4 = .ok (.aload_n 0, 1) := by decide +kernel
theorem dX8_image_5 : decode cX8_image 5 = .ok (.getfield 10, 3) := by decide +kernel
theorem dX8_image_8 : decode cX8_image 8 = .ok (.invokevirtual 209, 3) := by decide +kernel
theorem dX8_image_11 : decode cX8_image 11 = .ok (.aload_n 0, 1) := by decide +kernel
theorem dX8_image_12 : decode cX8_image 12 = .ok (.iconst 1, 1) := by decide +kernel
theorem dX8_image_13 : decode cX8_image 13 = .ok (.putfield 60, 3) := by decide +kernel
theorem dX8_image_16 : decode cX8_image 16 = .ok (.aload_n 0, 1) := by decide +kernel
theorem dX8_image_17 : decode cX8_image 17 = .ok (.getfield 10, 3) := by decide +kernel
theorem dX8_image_20 : decode cX8_image 20 = .ok (.getfield 329, 3) := by decide +kernel
theorem dX8_image_23 : decode cX8_image 23 = .ok (.ireturn, 1) := by decide +kernel
theorem dX8_restore_0 : decode cX8_restore 0 = .ok (.aload_n 0, 1) := by decide +kernel
theorem dX8_restore_1 : decode cX8_restore 1 = .ok (.getfield 60, 3) := by decide +kernel
theorem dX8_restore_4 : decode cX8_restore 4 = .ok (.ifCond .ne 10, 3) := by decide +kernel
theorem dX8_restore_7 : decode cX8_restore 7 = .ok (.aload_n 0, 1) := by decide +kernel
theorem dX8_restore_8 : decode cX8_restore 8 = .ok (.bipush 6, 2) := by decide +kernel
theorem dX8_restore_10 : decode cX8_restore 10 = .ok (.invokevirtual 73, 3) := by decide +kernel
theorem dX8_restore_13 : decode cX8_restore 13 = .ok (.ireturn, 1) := by decide +kernel
theorem dX8_restore_14 : decode cX8_restore 14 = .ok (.aload_n 0, 1) := by decide +kernel
theorem dX8_restore_15 : decode cX8_restore 15 = .ok (.getfield 10, 3) := by decide +kernel
theorem dX8_restore_18 : decode cX8_restore 18 = .ok (.aload_n 0, 1) := by decide +kernel
theorem dX8_restore_19 : decode cX8_restore 19 = .ok (.getfield 19, 3) := by decide +kernel
theorem dX8_restore_22 : decode cX8_restore 22 = .ok (.invokevirtual 209, 3) := by decide +kernel
theorem dX8_restore_25 : decode cX8_restore 25 = .ok (.iconst 0, 1) := by decide +kernel
theorem dX8_restore_26 : decode cX8_restore 26 = .ok (.istore_n 1, 1) := by decide +kernel
theorem dX8_restore_27 : decode cX8_restore 27 = .ok (.iload_n 1, 1) := by decide +kernel
theorem dX8_restore_28 : decode cX8_restore 28 = .ok (.bipush 8, 2) := by decide +kernel
theorem dX8_restore_30 : decode cX8_restore 30 = .ok (.if_icmp .ge 50, 3) := by decide +kernel
theorem dX8_restore_33 : decode cX8_restore 33 = .ok (.aload_n 0, 1) := by decide +kernel
theorem dX8_restore_34 : decode cX8_restore 34 = .ok (.getfield 24, 3) := by decide +kernel
theorem dX8_restore_37 : decode cX8_restore 37 = .ok (.iload_n 1, 1) := by decide +kernel
theorem dX8_restore_38 : decode cX8_restore 38 = .ok (.aaload, 1) := by decide +kernel
theorem dX8_restore_39 : decode cX8_restore 39 = .ok (.invokevirtual 91, 3) := by decide +kernel
theorem dX8_restore_42 : decode cX8_restore 42 = .ok (.ifCond .eq 32, 3) := by decide +kernel
theorem dX8_restore_45 : decode cX8_restore 45 = .ok (.aload_n 0, 1) := by decide +kernel
theorem dX8_restore_46 : decode cX8_restore 46 = .ok (.getfield 10, 3) := by decide +kernel
theorem dX8_restore_49 : decode cX8_restore 49 = .ok (.aload_n 0, 1) := by decide +kernel
theorem dX8_restore_50 : decode cX8_restore 50 = .ok (.getfield 24, 3) := by decide +kernel
theorem dX8_restore_53 : decode cX8_restore 53 = .ok (.iload_n 1, 1) := by decide +kernel
theorem dX8_restore_54 : decode cX8_restore 54 = .ok (.aaload, 1) := by decide +kernel
theorem dX8_restore_55 : decode cX8_restore 55 = .ok (.getfield 127, 3) := by decide +kernel
theorem dX8_restore_58 : decode cX8_restore 58 = .ok (.invokevirtual 120, 3) := by decide +kernel
theorem dX8_restore_61 : decode cX8_restore 61 = .ok (.ifCond .ne 13, 3) := by decide +kernel
theorem dX8_restore_64 : decode cX8_restore 64 = .ok (.aload_n 0, 1) := by decide +kernel
theorem dX8_restore_65 : decode cX8_restore 65 = .ok (.getfield 24, 3) := by decide +kernel
theorem dX8_restore_68 : decode cX8_restore 68 = .ok (.iload_n 1, 1) := by decide +kernel
theorem dX8_restore_69 : decode cX8_restore 69 = .ok (.aaload, 1) := by decide +kernel
theorem dX8_restore_70 : decode cX8_restore 70 = .ok (.iconst (-1), 1) := by decide +kernel
theorem dX8_restore_71 : decode cX8_restore 71 = .ok (.invokevirtual 123, 3) := by decide +kernel
theorem dX8_restore_74 : decode cX8_restore 74 = .ok (.iinc 1 1, 3) := by decide +kernel
theorem dX8_restore_77 : decode cX8_restore 77 = .ok (.goto (-50), 3) := by decide +kernel
theorem dX8_restore_80 : decode cX8_restore 80 = .ok (.aload_n 0, 1) := by decide +kernel
theorem dX8_restore_81 : decode cX8_restore 81 = .ok (.getfield 10, 3) := by decide +kernel
theorem dX8_restore_84 : decode cX8_restore 84 = .ok (.getfield 329, 3) := by decide +kernel
theorem dX8_restore_87 : decode cX8_restore 87 = .ok (.ireturn, 1) := by decide +kernel
theorem dX8_status_0 : decode cX8_status 0 = .ok (.iload_n 1, 1) := by decide +kernel
theorem dX8_status_1 : decode cX8_status 1 = .ok (.bipush 11, 2) := by decide +kernel
theorem dX8_status_3 : decode cX8_status 3 = .ok (.bipush 17, 2) := by decide +kernel
theorem dX8_status_5 : decode cX8_status 5 = .ok (.invokestatic 157, 3) := by decide +kernel
theorem dX8_status_8 : decode cX8_status 8 = .ok (.ifCond .eq 13, 3) := by decide +kernel
theorem dX8_status_11 : decode cX8_status 11 = .ok (.aload_n 0, 1) := by decide +kernel
theorem dX8_status_12 : decode cX8_status 12 = .ok (.getfield 28, 3) := by decide +kernel
theorem dX8_status_15 : decode cX8_status 15 = .ok (.iload_n 1, 1) := by decide +kernel
theorem dX8_status_16 : decode cX8_status 16 = .ok (.bipush 10, 2) := by decide +kernel
theorem dX8_status_18 : decode cX8_status 18 = .ok (.isub, 1) := by decide +kernel
theorem dX8_status_19 : decode cX8_status 19 = .ok (.iaload, 1) := by decide +kernel
theorem dX8_status_20 : decode cX8_status 20 = .ok (.ireturn, 1) := by decide +kernel
theorem dX8_status_21 : decode cX8_status 21 = .ok (.iload_n 1, 1) := by decide +kernel
theorem dX8_status_22 : decode cX8_status 22 = .ok (.tableswitch 125 0 8 #[50, 58, 69, 77, 85, 93, 101, 109, 117], 50) := by decide +kernel
theorem dX8_status_72 : decode cX8_status 72 = .ok (.aload_n 0, 1) := by decide +kernel
theorem dX8_status_73 : decode cX8_status 73 = .ok (.getfield 10, 3) := by decide +kernel
theorem dX8_status_76 : decode cX8_status 76 = .ok (.getfield 329, 3) := by decide +kernel
theorem dX8_status_79 : decode cX8_status 79 = .ok (.ireturn, 1) := by decide +kernel
theorem dX8_status_80 : decode cX8_status 80 = .ok (.aload_n 0, 1) := by decide +kernel
theorem dX8_status_81 : decode cX8_status 81 = .ok (.getfield 10, 3) := by decide +kernel
theorem dX8_status_84 : decode cX8_status 84 = .ok (.getfield 220, 3) := by decide +kernel
theorem dX8_status_87 : decode cX8_status 87 = .ok (.invokestatic 299, 3) := by decide +kernel
theorem dX8_status_90 : decode cX8_status 90 = .ok (.ireturn, 1) := by decide +kernel
theorem dX8_status_91 : decode cX8_status 91 = .ok (.aload_n 0, 1) := by decide +kernel
theorem dX8_status_92 : decode cX8_status 92 = .ok (.getfield 10, 3) := by decide +kernel
theorem dX8_status_95 : decode cX8_status 95 = .ok (.getfield 185, 3) := by decide +kernel
theorem dX8_status_98 : decode cX8_status 98 = .ok (.ireturn, 1) := by decide +kernel
theorem dX8_status_99 : decode cX8_status 99 = .ok (.aload_n 0, 1) := by decide +kernel
theorem dX8_status_100 : decode cX8_status 100 = .ok (.getfield 10, 3) := by decide +kernel
theorem dX8_status_103 : decode cX8_status 103 = .ok (.getfield 188, 3) := by decide +kernel
theorem dX8_status_106 : decode cX8_status 106 = .ok (.ireturn, 1) := by decide +kernel
theorem dX8_status_107 : decode cX8_status 107 = .ok (.aload_n 0, 1) := by decide +kernel
theorem dX8_status_108 : decode cX8_status 108 = .ok (.getfield 10, 3) := by decide +kernel
theorem dX8_status_111 : decode cX8_status 111 = .ok (.getfield 280, 3) := by decide +kernel
theorem dX8_status_114 : decode cX8_status 114 = .ok (.ireturn, 1) := by decide +kernel
theorem dX8_status_115 : decode cX8_status 115 = .ok (.aload_n 0, 1) := by decide +kernel
theorem dX8_status_116 : decode cX8_status 116 = .ok (.getfield 10, 3) := by decide +kernel
theorem dX8_status_119 : decode cX8_status 119 = .ok (.getfield 341, 3) := by decide +kernel
theorem dX8_status_122 : decode cX8_status 122 = .ok (.ireturn, 1) := by decide +kernel
theorem dX8_status_123 : decode cX8_status 123 = .ok (.aload_n 0, 1) := by decide +kernel
theorem dX8_status_124 : decode cX8_status 124 = .ok (.getfield 10, 3) := by decide +kernel
theorem dX8_status_127 : decode cX8_status 127 = .ok (.invokevirtual 357, 3) := by decide +kernel
theorem dX8_status_130 : decode cX8_status 130 = .ok (.ireturn, 1) := by decide +kernel
theorem dX8_status_131 : decode cX8_status 131 = .ok (.aload_n 0, 1) := by decide +kernel
theorem dX8_status_132 : decode cX8_status 132 = .ok (.getfield 10, 3) := by decide +kernel
theorem dX8_status_135 : decode cX8_status 135 = .ok (.getfield 344, 3) := by decide +kernel
theorem dX8_status_138 : decode cX8_status 138 = .ok (.ireturn, 1) := by decide +kernel
theorem dX8_status_139 : decode cX8_status 139 = .ok (.aload_n 0, 1) := by decide +kernel
theorem dX8_status_140 : decode cX8_status 140 = .ok (.getfield 56, 3) := by decide +kernel
theorem dX8_status_143 : decode cX8_status 143 = .ok (.getfield 360, 3) := by decide +kernel
theorem dX8_status_146 : decode cX8_status 146 = .ok (.ireturn, 1) := by decide +kernel
theorem dX8_status_147 : decode cX8_status 147 = .ok (.iconst (-1), 1) := by decide +kernel
theorem dX8_status_148 : decode cX8_status 148 = .ok (.ireturn, 1) := by decide +kernel
theorem dX8_refuse_0 : decode cX8_refuse 0 = .ok (.aload_n 0, 1) := by decide +kernel
theorem dX8_refuse_1 : decode cX8_refuse 1 = .ok (.getfield 28, 3) := by decide +kernel
theorem dX8_refuse_4 : decode cX8_refuse 4 = .ok (.iload_n 1, 1) := by decide +kernel
theorem dX8_refuse_5 : decode cX8_refuse 5 = .ok (.dup2, 1) := by decide +kernel
theorem dX8_refuse_6 : decode cX8_refuse 6 = .ok (.iaload, 1) := by decide +kernel
theorem dX8_refuse_7 : decode cX8_refuse 7 = .ok (.iconst 1, 1) := by decide +kernel
theorem dX8_refuse_8 : decode cX8_refuse 8 = .ok (.iadd, 1) := by decide +kernel
theorem dX8_refuse_9 : decode cX8_refuse 9 = .ok (.iastore, 1) := by decide +kernel
theorem dX8_refuse_10 : decode cX8_refuse 10 = .ok (.iload_n 1, 1) := by decide +kernel
theorem dX8_refuse_11 : decode cX8_refuse 11 = .ok (.ineg, 1) := by decide +kernel
theorem dX8_refuse_12 : decode cX8_refuse 12 = .ok (.ireturn, 1) := by decide +kernel
theorem dX8_refuseApart_0 : decode cX8_refuseApart 0 = .ok (.aload_n 0, 1) := by decide +kernel
theorem dX8_refuseApart_1 : decode cX8_refuseApart 1 = .ok (.getfield 28, 3) := by decide +kernel
theorem dX8_refuseApart_4 : decode cX8_refuseApart 4 = .ok (.iload_n 1, 1) := by decide +kernel
theorem dX8_refuseApart_5 : decode cX8_refuseApart 5 = .ok (.dup2, 1) := by decide +kernel
theorem dX8_refuseApart_6 : decode cX8_refuseApart 6 = .ok (.iaload, 1) := by decide +kernel
theorem dX8_refuseApart_7 : decode cX8_refuseApart 7 = .ok (.iconst 1, 1) := by decide +kernel
theorem dX8_refuseApart_8 : decode cX8_refuseApart 8 = .ok (.iadd, 1) := by decide +kernel
theorem dX8_refuseApart_9 : decode cX8_refuseApart 9 = .ok (.iastore, 1) := by decide +kernel
theorem dX8_refuseApart_10 : decode cX8_refuseApart 10 = .ok (.bipush (-10), 2) := by decide +kernel
theorem dX8_refuseApart_12 : decode cX8_refuseApart 12 = .ok (.iload_n 1, 1) := by decide +kernel
theorem dX8_refuseApart_13 : decode cX8_refuseApart 13 = .ok (.isub, 1) := by decide +kernel
theorem dX8_refuseApart_14 : decode cX8_refuseApart 14 = .ok (.ireturn, 1) := by decide +kernel
theorem dX8_whyNoRow_0 : decode cX8_whyNoRow 0 = .ok (.iload_n 1, 1) := by decide +kernel
theorem dX8_whyNoRow_1 : decode cX8_whyNoRow 1 = .ok (.invokestatic 69, 3) := by decide +kernel
theorem dX8_whyNoRow_4 : decode cX8_whyNoRow 4 = .ok (.ifCond .ne 5, 3) := by decide +kernel
theorem dX8_whyNoRow_7 : decode cX8_whyNoRow 7 = .ok (.iconst 1, 1) := by decide +kernel
theorem dX8_whyNoRow_8 : decode cX8_whyNoRow 8 = .ok (.ireturn, 1) := by decide +kernel
theorem dX8_whyNoRow_9 : decode cX8_whyNoRow 9 = .ok (.aload_n 0, 1) := by decide +kernel
theorem dX8_whyNoRow_10 : decode cX8_whyNoRow 10 = .ok (.getfield 24, 3) := by decide +kernel
theorem dX8_whyNoRow_13 : decode cX8_whyNoRow 13 = .ok (.iload_n 1, 1) := by decide +kernel
theorem dX8_whyNoRow_14 : decode cX8_whyNoRow 14 = .ok (.aaload, 1) := by decide +kernel
theorem dX8_whyNoRow_15 : decode cX8_whyNoRow 15 = .ok (.invokevirtual 91, 3) := by decide +kernel
theorem dX8_whyNoRow_18 : decode cX8_whyNoRow 18 = .ok (.ifCond .eq 5, 3) := by decide +kernel
theorem dX8_whyNoRow_21 : decode cX8_whyNoRow 21 = .ok (.iconst 2, 1) := by decide +kernel
theorem dX8_whyNoRow_22 : decode cX8_whyNoRow 22 = .ok (.ireturn, 1) := by decide +kernel
theorem dX8_whyNoRow_23 : decode cX8_whyNoRow 23 = .ok (.aload_n 0, 1) := by decide +kernel
theorem dX8_whyNoRow_24 : decode cX8_whyNoRow 24 = .ok (.getfield 24, 3) := by decide +kernel
theorem dX8_whyNoRow_27 : decode cX8_whyNoRow 27 = .ok (.iload_n 1, 1) := by decide +kernel
theorem dX8_whyNoRow_28 : decode cX8_whyNoRow 28 = .ok (.aaload, 1) := by decide +kernel
theorem dX8_whyNoRow_29 : decode cX8_whyNoRow 29 = .ok (.invokevirtual 99, 3) := by decide +kernel
theorem dX8_whyNoRow_32 : decode cX8_whyNoRow 32 = .ok (.ifCond .eq 7, 3) := by decide +kernel
theorem dX8_whyNoRow_35 : decode cX8_whyNoRow 35 = .ok (.iconst 0, 1) := by decide +kernel
theorem dX8_whyNoRow_36 : decode cX8_whyNoRow 36 = .ok (.goto 4, 3) := by decide +kernel
theorem dX8_whyNoRow_39 : decode cX8_whyNoRow 39 = .ok (.iconst 3, 1) := by decide +kernel
theorem dX8_whyNoRow_40 : decode cX8_whyNoRow 40 = .ok (.ireturn, 1) := by decide +kernel
theorem dX8_areOfTwoSorts_0 : decode cX8_areOfTwoSorts 0 = .ok (.aload_n 0, 1) := by decide +kernel
theorem dX8_areOfTwoSorts_1 : decode cX8_areOfTwoSorts 1 = .ok (.invokevirtual 99, 3) := by decide +kernel
theorem dX8_areOfTwoSorts_4 : decode cX8_areOfTwoSorts 4 = .ok (.ifCond .eq 25, 3) := by decide +kernel
theorem dX8_areOfTwoSorts_7 : decode cX8_areOfTwoSorts 7 = .ok (.aload_n 1, 1) := by decide +kernel
theorem dX8_areOfTwoSorts_8 : decode cX8_areOfTwoSorts 8 = .ok (.invokevirtual 99, 3) := by decide +kernel
theorem dX8_areOfTwoSorts_11 : decode cX8_areOfTwoSorts 11 = .ok (.ifCond .eq 18, 3) := by decide +kernel
theorem dX8_areOfTwoSorts_14 : decode cX8_areOfTwoSorts 14 = .ok (.aload_n 0, 1) := by decide +kernel
theorem dX8_areOfTwoSorts_15 : decode cX8_areOfTwoSorts 15 = .ok (.getfield 127, 3) := by decide +kernel
theorem dX8_areOfTwoSorts_18 : decode cX8_areOfTwoSorts 18 = .ok (.aload_n 1, 1) := by decide +kernel
theorem dX8_areOfTwoSorts_19 : decode cX8_areOfTwoSorts 19 = .ok (.getfield 127, 3) := by decide +kernel
theorem dX8_areOfTwoSorts_22 : decode cX8_areOfTwoSorts 22 = .ok (.if_icmp .eq 7, 3) := by decide +kernel
theorem dX8_areOfTwoSorts_25 : decode cX8_areOfTwoSorts 25 = .ok (.iconst 1, 1) := by decide +kernel
theorem dX8_areOfTwoSorts_26 : decode cX8_areOfTwoSorts 26 = .ok (.goto 4, 3) := by decide +kernel
theorem dX8_areOfTwoSorts_29 : decode cX8_areOfTwoSorts 29 = .ok (.iconst 0, 1) := by decide +kernel
theorem dX8_areOfTwoSorts_30 : decode cX8_areOfTwoSorts 30 = .ok (.ireturn, 1) := by decide +kernel
theorem dX8_isShelf_0 : decode cX8_isShelf 0 = .ok (.iload_n 0, 1) := by decide +kernel
theorem dX8_isShelf_1 : decode cX8_isShelf 1 = .ok (.iconst 0, 1) := by decide +kernel
theorem dX8_isShelf_2 : decode cX8_isShelf 2 = .ok (.bipush 7, 2) := by decide +kernel
theorem dX8_isShelf_4 : decode cX8_isShelf 4 = .ok (.invokestatic 157, 3) := by decide +kernel
theorem dX8_isShelf_7 : decode cX8_isShelf 7 = .ok (.ireturn, 1) := by decide +kernel
theorem dX8_isSquare_0 : decode cX8_isSquare 0 = .ok (.iload_n 0, 1) := by decide +kernel
theorem dX8_isSquare_1 : decode cX8_isSquare 1 = .ok (.ifCond .lt 13, 3) := by decide +kernel
theorem dX8_isSquare_4 : decode cX8_isSquare 4 = .ok (.iload_n 0, 1) := by decide +kernel
theorem dX8_isSquare_5 : decode cX8_isSquare 5 = .ok (.bipush 49, 2) := by decide +kernel
theorem dX8_isSquare_7 : decode cX8_isSquare 7 = .ok (.if_icmp .ge 7, 3) := by decide +kernel
theorem dX8_isSquare_10 : decode cX8_isSquare 10 = .ok (.iconst 1, 1) := by decide +kernel
theorem dX8_isSquare_11 : decode cX8_isSquare 11 = .ok (.goto 4, 3) := by decide +kernel
theorem dX8_isSquare_14 : decode cX8_isSquare 14 = .ok (.iconst 0, 1) := by decide +kernel
theorem dX8_isSquare_15 : decode cX8_isSquare 15 = .ok (.ireturn, 1) := by decide +kernel
theorem dX8_isAhead_0 : decode cX8_isAhead 0 = .ok (.iload_n 0, 1) := by decide +kernel
theorem dX8_isAhead_1 : decode cX8_isAhead 1 = .ok (.iconst 0, 1) := by decide +kernel
theorem dX8_isAhead_2 : decode cX8_isAhead 2 = .ok (.bipush 30, 2) := by decide +kernel
theorem dX8_isAhead_4 : decode cX8_isAhead 4 = .ok (.invokestatic 157, 3) := by decide +kernel
theorem dX8_isAhead_7 : decode cX8_isAhead 7 = .ok (.ireturn, 1) := by decide +kernel
theorem dX8_isBetween_0 : decode cX8_isBetween 0 = .ok (.iload_n 0, 1) := by decide +kernel
theorem dX8_isBetween_1 : decode cX8_isBetween 1 = .ok (.iload_n 1, 1) := by decide +kernel
theorem dX8_isBetween_2 : decode cX8_isBetween 2 = .ok (.if_icmp .lt 12, 3) := by decide +kernel
theorem dX8_isBetween_5 : decode cX8_isBetween 5 = .ok (.iload_n 0, 1) := by decide +kernel
theorem dX8_isBetween_6 : decode cX8_isBetween 6 = .ok (.iload_n 2, 1) := by decide +kernel
theorem dX8_isBetween_7 : decode cX8_isBetween 7 = .ok (.if_icmp .gt 7, 3) := by decide +kernel
theorem dX8_isBetween_10 : decode cX8_isBetween 10 = .ok (.iconst 1, 1) := by decide +kernel
theorem dX8_isBetween_11 : decode cX8_isBetween 11 = .ok (.goto 4, 3) := by decide +kernel
theorem dX8_isBetween_14 : decode cX8_isBetween 14 = .ok (.iconst 0, 1) := by decide +kernel
theorem dX8_isBetween_15 : decode cX8_isBetween 15 = .ok (.ireturn, 1) := by decide +kernel
theorem dX8_isIn_0 : decode cX8_isIn 0 = .ok (.iload_n 0, 1) := by decide +kernel
theorem dX8_isIn_1 : decode cX8_isIn 1 = .ok (.iload_n 1, 1) := by decide +kernel
theorem dX8_isIn_2 : decode cX8_isIn 2 = .ok (.iushr, 1) := by decide +kernel
theorem dX8_isIn_3 : decode cX8_isIn 3 = .ok (.iconst 1, 1) := by decide +kernel
theorem dX8_isIn_4 : decode cX8_isIn 4 = .ok (.iand, 1) := by decide +kernel
theorem dX8_isIn_5 : decode cX8_isIn 5 = .ok (.ifCond .eq 7, 3) := by decide +kernel
theorem dX8_isIn_8 : decode cX8_isIn 8 = .ok (.iconst 1, 1) := by decide +kernel
theorem dX8_isIn_9 : decode cX8_isIn 9 = .ok (.goto 4, 3) := by decide +kernel
theorem dX8_isIn_12 : decode cX8_isIn 12 = .ok (.iconst 0, 1) := by decide +kernel
theorem dX8_isIn_13 : decode cX8_isIn 13 = .ok (.ireturn, 1) := by decide +kernel
theorem dX9_init_0 : decode cX9_init 0 = .ok (.aload_n 0, 1) := by decide +kernel
theorem dX9_init_1 : decode cX9_init 1 = .ok (.invokespecial 1, 3) := by decide +kernel
theorem dX9_init_4 : decode cX9_init 4 = .ok (.aload_n 0, 1) := by decide +kernel
theorem dX9_init_5 : decode cX9_init 5 = .ok (.bipush 7, 2) := by decide +kernel
theorem dX9_init_7 : decode cX9_init 7 = .ok (.newarray .int, 2) := by decide +kernel
theorem dX9_init_9 : decode cX9_init 9 = .ok (.putfield 7, 3) := by decide +kernel
theorem dX9_init_12 : decode cX9_init 12 = .ok (.aload_n 0, 1) := by decide +kernel
theorem dX9_init_13 : decode cX9_init 13 = .ok (.bipush 7, 2) := by decide +kernel
theorem dX9_init_15 : decode cX9_init 15 = .ok (.newarray .int, 2) := by decide +kernel
theorem dX9_init_17 : decode cX9_init 17 = .ok (.putfield 13, 3) := by decide +kernel
theorem dX9_init_20 : decode cX9_init 20 = .ok (.aload_n 0, 1) := by decide +kernel
theorem dX9_init_21 : decode cX9_init 21 = .ok (.bipush 7, 2) := by decide +kernel
theorem dX9_init_23 : decode cX9_init 23 = .ok (.newarray .int, 2) := by decide +kernel
theorem dX9_init_25 : decode cX9_init 25 = .ok (.putfield 16, 3) := by decide +kernel
theorem dX9_init_28 : decode cX9_init 28 = .ok (.aload_n 0, 1) := by decide +kernel
theorem dX9_init_29 : decode cX9_init 29 = .ok (.bipush 7, 2) := by decide +kernel
theorem dX9_init_31 : decode cX9_init 31 = .ok (.newarray .int, 2) := by decide +kernel
theorem dX9_init_33 : decode cX9_init 33 = .ok (.putfield 19, 3) := by decide +kernel
theorem dX9_init_36 : decode cX9_init 36 = .ok (.aload_n 0, 1) := by decide +kernel
theorem dX9_init_37 : decode cX9_init 37 = .ok (.bipush 7, 2) := by decide +kernel
theorem dX9_init_39 : decode cX9_init 39 = .ok (.newarray .int, 2) := by decide +kernel
theorem dX9_init_41 : decode cX9_init 41 = .ok (.putfield 22, 3) := by decide +kernel
theorem dX9_init_44 : decode cX9_init 44 = .ok (.aload_n 0, 1) := by decide +kernel
theorem dX9_init_45 : decode cX9_init 45 = .ok (.bipush 7, 2) := by decide +kernel
theorem dX9_init_47 : decode cX9_init 47 = .ok (.newarray .int, 2) := by decide +kernel
theorem dX9_init_49 : decode cX9_init 49 = .ok (.putfield 25, 3) := by decide +kernel
theorem dX9_init_52 : decode cX9_init 52 = .ok (.aload_n 0, 1) := by decide +kernel
theorem dX9_init_53 : decode cX9_init 53 = .ok (.bipush 49, 2) := by decide +kernel
theorem dX9_init_55 : decode cX9_init 55 = .ok (.newarray .boolean, 2) := by decide +kernel
theorem dX9_init_57 : decode cX9_init 57 = .ok (.putfield 28, 3) := by decide +kernel
theorem dX9_init_60 : decode cX9_init 60 = .ok (.aload_n 0, 1) := by decide +kernel
theorem dX9_init_61 : decode cX9_init 61 = .ok (.iconst 4, 1) := by decide +kernel
theorem dX9_init_62 : decode cX9_init 62 = .ok (.newarray .int, 2) := by decide +kernel
theorem dX9_init_64 : decode cX9_init 64 = .ok (.putfield 32, 3) := by decide +kernel
theorem dX9_init_67 : decode cX9_init 67 = .ok (.aload_n 0, 1) := by decide +kernel
theorem dX9_init_68 : decode cX9_init 68 = .ok (.bipush 8, 2) := by decide +kernel
theorem dX9_init_70 : decode cX9_init 70 = .ok (.newarray .int, 2) := by decide +kernel
theorem dX9_init_72 : decode cX9_init 72 = .ok (.putfield 35, 3) := by decide +kernel
theorem dX9_init_75 : decode cX9_init 75 = .ok (.aload_n 0, 1) := by decide +kernel
theorem dX9_init_76 : decode cX9_init 76 = .ok (.bipush 8, 2) := by decide +kernel
theorem dX9_init_78 : decode cX9_init 78 = .ok (.newarray .int, 2) := by decide +kernel
theorem dX9_init_80 : decode cX9_init 80 = .ok (.putfield 38, 3) := by decide +kernel
theorem dX9_init_83 : decode cX9_init 83 = .ok (.aload_n 0, 1) := by decide +kernel
theorem dX9_init_84 : decode cX9_init 84 = .ok (.sipush 1280, 3) := by decide +kernel
theorem dX9_init_87 : decode cX9_init 87 = .ok (.newarray .long, 2) := by decide +kernel
theorem dX9_init_89 : decode cX9_init 89 = .ok (.putfield 41, 3) := by decide +kernel
theorem dX9_init_92 : decode cX9_init 92 = .ok (.aload_n 0, 1) := by decide +kernel
theorem dX9_init_93 : decode cX9_init 93 = .ok (.iconst 5, 1) := by decide +kernel
theorem dX9_init_94 : decode cX9_init 94 = .ok (.newarray .int, 2) := by decide +kernel
theorem dX9_init_96 : decode cX9_init 96 = .ok (.putfield 45, 3) := by decide +kernel
theorem dX9_init_99 : decode cX9_init 99 = .ok (.aload_n 0, 1) := by decide +kernel
theorem dX9_init_100 : decode cX9_init 100 = .ok (.bipush 96, 2) := by decide +kernel
theorem dX9_init_102 : decode cX9_init 102 = .ok (.newarray .int, 2) := by decide +kernel
theorem dX9_init_104 : decode cX9_init 104 = .ok (.putfield 48, 3) := by decide +kernel
theorem dX9_init_107 : decode cX9_init 107 = .ok (.aload_n 0, 1) := by decide +kernel
theorem dX9_init_108 : decode cX9_init 108 = .ok (.bipush 20, 2) := by decide +kernel
theorem dX9_init_110 : decode cX9_init 110 = .ok (.newarray .int, 2) := by decide +kernel
theorem dX9_init_112 : decode cX9_init 112 = .ok (.putfield 51, 3) := by decide +kernel
theorem dX9_init_115 : decode cX9_init 115 = .ok (.aload_n 0, 1) := by decide +kernel
theorem dX9_init_116 : decode cX9_init 116 = .ok (.bipush 8, 2) := by decide +kernel
theorem dX9_init_118 : decode cX9_init 118 = .ok (.newarray .int, 2) := by decide +kernel
theorem dX9_init_120 : decode cX9_init 120 = .ok (.putfield 54, 3) := by decide +kernel
theorem dX9_init_123 : decode cX9_init 123 = .ok (.aload_n 0, 1) := by decide +kernel
theorem dX9_init_124 : decode cX9_init 124 = .ok (.bipush 96, 2) := by decide +kernel
theorem dX9_init_126 : decode cX9_init 126 = .ok (.newarray .int, 2) := by decide +kernel
theorem dX9_init_128 : decode cX9_init 128 = .ok (.putfield 57, 3) := by decide +kernel
theorem dX9_init_131 : decode cX9_init 131 = .ok (.aload_n 0, 1) := by decide +kernel
theorem dX9_init_132 : decode cX9_init 132 = .ok (.bipush 49, 2) := by decide +kernel
theorem dX9_init_134 : decode cX9_init 134 = .ok (.newarray .int, 2) := by decide +kernel
theorem dX9_init_136 : decode cX9_init 136 = .ok (.putfield 60, 3) := by decide +kernel
theorem dX9_init_139 : decode cX9_init 139 = .ok (.aload_n 0, 1) := by decide +kernel
theorem dX9_init_140 : decode cX9_init 140 = .ok (.bipush 49, 2) := by decide +kernel
theorem dX9_init_142 : decode cX9_init 142 = .ok (.newarray .int, 2) := by decide +kernel
theorem dX9_init_144 : decode cX9_init 144 = .ok (.putfield 63, 3) := by decide +kernel
theorem dX9_init_147 : decode cX9_init 147 = .ok (.aload_n 0, 1) := by decide +kernel
theorem dX9_init_148 : decode cX9_init 148 = .ok (.bipush 96, 2) := by decide +kernel
theorem dX9_init_150 : decode cX9_init 150 = .ok (.newarray .int, 2) := by decide +kernel
theorem dX9_init_152 : decode cX9_init 152 = .ok (.putfield 66, 3) := by decide +kernel
theorem dX9_init_155 : decode cX9_init 155 = .ok (.aload_n 0, 1) := by decide +kernel
theorem dX9_init_156 : decode cX9_init 156 = .ok (.getfield 32, 3) := by decide +kernel
theorem dX9_init_159 : decode cX9_init 159 = .ok (.iconst 0, 1) := by decide +kernel
theorem dX9_init_160 : decode cX9_init 160 = .ok (.iconst 2, 1) := by decide +kernel
theorem dX9_init_161 : decode cX9_init 161 = .ok (.iastore, 1) := by decide +kernel
theorem dX9_init_162 : decode cX9_init 162 = .ok (.aload_n 0, 1) := by decide +kernel
theorem dX9_init_163 : decode cX9_init 163 = .ok (.getfield 32, 3) := by decide +kernel
theorem dX9_init_166 : decode cX9_init 166 = .ok (.iconst 1, 1) := by decide +kernel
theorem dX9_init_167 : decode cX9_init 167 = .ok (.bipush 20, 2) := by decide +kernel
theorem dX9_init_169 : decode cX9_init 169 = .ok (.iastore, 1) := by decide +kernel
theorem dX9_init_170 : decode cX9_init 170 = .ok (.aload_n 0, 1) := by decide +kernel
theorem dX9_init_171 : decode cX9_init 171 = .ok (.iconst 1, 1) := by decide +kernel
theorem dX9_init_172 : decode cX9_init 172 = .ok (.putfield 69, 3) := by decide +kernel
theorem dX9_init_175 : decode cX9_init 175 = .ok (.aload_n 0, 1) := by decide +kernel
theorem dX9_init_176 : decode cX9_init 176 = .ok (.iconst (-1), 1) := by decide +kernel
theorem dX9_init_177 : decode cX9_init 177 = .ok (.putfield 73, 3) := by decide +kernel
theorem dX9_init_180 : decode cX9_init 180 = .ok (.aload_n 0, 1) := by decide +kernel
theorem dX9_init_181 : decode cX9_init 181 = .ok (.iconst (-1), 1) := by decide +kernel
theorem dX9_init_182 : decode cX9_init 182 = .ok (.putfield 76, 3) := by decide +kernel
theorem dX9_init_185 : decode cX9_init 185 = .ok (.iconst 0, 1) := by decide +kernel
theorem dX9_init_186 : decode cX9_init 186 = .ok (.istore_n 1, 1) := by decide +kernel
theorem dX9_init_187 : decode cX9_init 187 = .ok (.iload_n 1, 1) := by decide +kernel
theorem dX9_init_188 : decode cX9_init 188 = .ok (.bipush 8, 2) := by decide +kernel
theorem dX9_init_190 : decode cX9_init 190 = .ok (.if_icmp .ge 16, 3) := by decide +kernel
theorem dX9_init_193 : decode cX9_init 193 = .ok (.aload_n 0, 1) := by decide +kernel
theorem dX9_init_194 : decode cX9_init 194 = .ok (.getfield 35, 3) := by decide +kernel
theorem dX9_init_197 : decode cX9_init 197 = .ok (.iload_n 1, 1) := by decide +kernel
theorem dX9_init_198 : decode cX9_init 198 = .ok (.iconst (-1), 1) := by decide +kernel
theorem dX9_init_199 : decode cX9_init 199 = .ok (.iastore, 1) := by decide +kernel
theorem dX9_init_200 : decode cX9_init 200 = .ok (.iinc 1 1, 3) := by decide +kernel
theorem dX9_init_203 : decode cX9_init 203 = .ok (.goto (-16), 3) := by decide +kernel
theorem dX9_init_206 : decode cX9_init 206 = .ok (.return_, 1) := by decide +kernel
theorem dX9_no_0 : decode cX9_no 0 = .ok (.aload_n 0, 1) := by decide +kernel
theorem dX9_no_1 : decode cX9_no 1 = .ok (.getfield 54, 3) := by decide +kernel
theorem dX9_no_4 : decode cX9_no 4 = .ok (.iload_n 1, 1) := by decide +kernel
theorem dX9_no_5 : decode cX9_no 5 = .ok (.ineg, 1) := by decide +kernel
theorem dX9_no_6 : decode cX9_no 6 = .ok (.dup2, 1) := by decide +kernel
theorem dX9_no_7 : decode cX9_no 7 = .ok (.iaload, 1) := by decide +kernel
theorem dX9_no_8 : decode cX9_no 8 = .ok (.iconst 1, 1) := by decide +kernel
theorem dX9_no_9 : decode cX9_no 9 = .ok (.iadd, 1) := by decide +kernel
theorem dX9_no_10 : decode cX9_no 10 = .ok (.iastore, 1) := by decide +kernel
theorem dX9_no_11 : decode cX9_no 11 = .ok (.iload_n 1, 1) := by decide +kernel
theorem dX9_no_12 : decode cX9_no 12 = .ok (.ireturn, 1) := by decide +kernel
theorem dX9_no10_0 : decode cX9_no10 0 = .ok (.aload_n 0, 1) := by decide +kernel
theorem dX9_no10_1 : decode cX9_no10 1 = .ok (.iload_n 1, 1) := by decide +kernel
theorem dX9_no10_2 : decode cX9_no10 2 = .ok (.invokevirtual 79, 3) := by decide +kernel
theorem dX9_no10_5 : decode cX9_no10 5 = .ok (.bipush 10, 2) := by decide +kernel
theorem dX9_no10_7 : decode cX9_no10 7 = .ok (.isub, 1) := by decide +kernel
theorem dX9_no10_8 : decode cX9_no10 8 = .ok (.ireturn, 1) := by decide +kernel
theorem dX9_within_0 : decode cX9_within 0 = .ok (.iload_n 0, 1) := by decide +kernel
theorem dX9_within_1 : decode cX9_within 1 = .ok (.iload_n 1, 1) := by decide +kernel
theorem dX9_within_2 : decode cX9_within 2 = .ok (.if_icmp .lt 12, 3) := by decide +kernel
theorem dX9_within_5 : decode cX9_within 5 = .ok (.iload_n 0, 1) := by decide +kernel
theorem dX9_within_6 : decode cX9_within 6 = .ok (.iload_n 2, 1) := by decide +kernel
theorem dX9_within_7 : decode cX9_within 7 = .ok (.if_icmp .gt 7, 3) := by decide +kernel
theorem dX9_within_10 : decode cX9_within 10 = .ok (.iconst 1, 1) := by decide +kernel
theorem dX9_within_11 : decode cX9_within 11 = .ok (.goto 4, 3) := by decide +kernel
theorem dX9_within_14 : decode cX9_within 14 = .ok (.iconst 0, 1) := by decide +kernel
theorem dX9_within_15 : decode cX9_within 15 = .ok (.ireturn, 1) := by decide +kernel
theorem dX9_isOne_0 : decode cX9_isOne 0 = .ok (.iload_n 1, 1) := by decide +kernel
theorem dX9_isOne_1 : decode cX9_isOne 1 = .ok (.iconst 0, 1) := by decide +kernel
theorem dX9_isOne_2 : decode cX9_isOne 2 = .ok (.aload_n 0, 1) := by decide +kernel
theorem dX9_isOne_3 : decode cX9_isOne 3 = .ok (.getfield 83, 3) := by decide +kernel
theorem dX9_isOne_6 : decode cX9_isOne 6 = .ok (.iconst 1, 1) := by decide +kernel
theorem dX9_isOne_7 : decode cX9_isOne 7 = .ok (.isub, 1) := by decide +kernel
theorem dX9_isOne_8 : decode cX9_isOne 8 = .ok (.invokestatic 86, 3) := by decide +kernel
theorem dX9_isOne_11 : decode cX9_isOne 11 = .ok (.ireturn, 1) := by decide +kernel
theorem dX9_isSquare_0 : decode cX9_isSquare 0 = .ok (.iload_n 0, 1) := by decide +kernel
theorem dX9_isSquare_1 : decode cX9_isSquare 1 = .ok (.iconst 0, 1) := by decide +kernel
theorem dX9_isSquare_2 : decode cX9_isSquare 2 = .ok (.bipush 48, 2) := by decide +kernel
theorem dX9_isSquare_4 : decode cX9_isSquare 4 = .ok (.invokestatic 86, 3) := by decide +kernel
theorem dX9_isSquare_7 : decode cX9_isSquare 7 = .ok (.ireturn, 1) := by decide +kernel
theorem dX9_isTime_0 : decode cX9_isTime 0 = .ok (.iload_n 0, 1) := by decide +kernel
theorem dX9_isTime_1 : decode cX9_isTime 1 = .ok (.iconst 0, 1) := by decide +kernel
theorem dX9_isTime_2 : decode cX9_isTime 2 = .ok (.bipush 30, 2) := by decide +kernel
theorem dX9_isTime_4 : decode cX9_isTime 4 = .ok (.invokestatic 86, 3) := by decide +kernel
theorem dX9_isTime_7 : decode cX9_isTime 7 = .ok (.ireturn, 1) := by decide +kernel
theorem dX9_isRow_0 : decode cX9_isRow 0 = .ok (.aload_n 0, 1) := by decide +kernel
theorem dX9_isRow_1 : decode cX9_isRow 1 = .ok (.getfield 35, 3) := by decide +kernel
theorem dX9_isRow_4 : decode cX9_isRow 4 = .ok (.iload_n 1, 1) := by decide +kernel
theorem dX9_isRow_5 : decode cX9_isRow 5 = .ok (.iaload, 1) := by decide +kernel
theorem dX9_isRow_6 : decode cX9_isRow 6 = .ok (.bipush 100, 2) := by decide +kernel
theorem dX9_isRow_8 : decode cX9_isRow 8 = .ok (.if_icmp .lt 7, 3) := by decide +kernel
theorem dX9_isRow_11 : decode cX9_isRow 11 = .ok (.iconst 1, 1) := by decide +kernel
theorem dX9_isRow_12 : decode cX9_isRow 12 = .ok (.goto 4, 3) := by decide +kernel
theorem dX9_isRow_15 : decode cX9_isRow 15 = .ok (.iconst 0, 1) := by decide +kernel
theorem dX9_isRow_16 : decode cX9_isRow 16 = .ok (.ireturn, 1) := by decide +kernel
theorem dX9_row_0 : decode cX9_row 0 = .ok (.iload_n 1, 1) := by decide +kernel
theorem dX9_row_1 : decode cX9_row 1 = .ok (.iconst 0, 1) := by decide +kernel
theorem dX9_row_2 : decode cX9_row 2 = .ok (.bipush 7, 2) := by decide +kernel
theorem dX9_row_4 : decode cX9_row 4 = .ok (.invokestatic 86, 3) := by decide +kernel
theorem dX9_row_7 : decode cX9_row 7 = .ok (.ifCond .ne 9, 3) := by decide +kernel
theorem dX9_row_10 : decode cX9_row 10 = .ok (.aload_n 0, 1) := by decide +kernel
theorem dX9_row_11 : decode cX9_row 11 = .ok (.iconst (-1), 1) := by decide +kernel
theorem dX9_row_12 : decode cX9_row 12 = .ok (.invokevirtual 79, 3) := by decide +kernel
theorem dX9_row_15 : decode cX9_row 15 = .ok (.ireturn, 1) := by decide +kernel
theorem dX9_row_16 : decode cX9_row 16 = .ok (.iload_n 3, 1) := by decide +kernel
theorem dX9_row_17 : decode cX9_row 17 = .ok (.ifCond .ge 10, 3) := by decide +kernel
theorem dX9_row_20 : decode cX9_row 20 = .ok (.aload_n 0, 1) := by decide +kernel
theorem dX9_row_21 : decode cX9_row 21 = .ok (.bipush (-4), 2) := by decide +kernel
theorem dX9_row_23 : decode cX9_row 23 = .ok (.invokevirtual 79, 3) := by decide +kernel
theorem dX9_row_26 : decode cX9_row 26 = .ok (.ireturn, 1) := by decide +kernel
theorem dX9_row_27 : decode cX9_row 27 = .ok (.iload_n 2, 1) := by decide +kernel
theorem dX9_row_28 : decode cX9_row 28 = .ok (.iconst 0, 1) := by decide +kernel
theorem dX9_row_29 : decode cX9_row 29 = .ok (.iconst 3, 1) := by decide +kernel
theorem dX9_row_30 : decode cX9_row 30 = .ok (.invokestatic 86, 3) := by decide +kernel
theorem dX9_row_33 : decode cX9_row 33 = .ok (.ifCond .ne 10, 3) := by decide +kernel
theorem dX9_row_36 : decode cX9_row 36 = .ok (.aload_n 0, 1) := by decide +kernel
theorem dX9_row_37 : decode cX9_row 37 = .ok (.bipush (-6), 2) := by decide +kernel
theorem dX9_row_39 : decode cX9_row 39 = .ok (.invokevirtual 79, 3) := by decide +kernel
theorem dX9_row_42 : decode cX9_row 42 = .ok (.ireturn, 1) := by decide +kernel
theorem dX9_row_43 : decode cX9_row 43 = .ok (.iload_n 3, 1) := by decide +kernel
theorem dX9_row_44 : decode cX9_row 44 = .ok (.sipush 160, 3) := by decide +kernel
theorem dX9_row_47 : decode cX9_row 47 = .ok (.if_icmp .le 10, 3) := by decide +kernel
theorem dX9_row_50 : decode cX9_row 50 = .ok (.aload_n 0, 1) := by decide +kernel
theorem dX9_row_51 : decode cX9_row 51 = .ok (.bipush (-7), 2) := by decide +kernel
theorem dX9_row_53 : decode cX9_row 53 = .ok (.invokevirtual 79, 3) := by decide +kernel
theorem dX9_row_56 : decode cX9_row 56 = .ok (.ireturn, 1) := by decide +kernel
theorem dX9_row_57 : decode cX9_row 57 = .ok (.aload_n 0, 1) := by decide +kernel
theorem dX9_row_58 : decode cX9_row 58 = .ok (.getfield 35, 3) := by decide +kernel
theorem dX9_row_61 : decode cX9_row 61 = .ok (.iload_n 1, 1) := by decide +kernel
theorem dX9_row_62 : decode cX9_row 62 = .ok (.bipush 100, 2) := by decide +kernel
theorem dX9_row_64 : decode cX9_row 64 = .ok (.iload_n 2, 1) := by decide +kernel
theorem dX9_row_65 : decode cX9_row 65 = .ok (.iadd, 1) := by decide +kernel
theorem dX9_row_66 : decode cX9_row 66 = .ok (.iastore, 1) := by decide +kernel
theorem dX9_row_67 : decode cX9_row 67 = .ok (.aload_n 0, 1) := by decide +kernel
theorem dX9_row_68 : decode cX9_row 68 = .ok (.getfield 38, 3) := by decide +kernel
theorem dX9_row_71 : decode cX9_row 71 = .ok (.iload_n 1, 1) := by decide +kernel
theorem dX9_row_72 : decode cX9_row 72 = .ok (.iload_n 3, 1) := by decide +kernel
theorem dX9_row_73 : decode cX9_row 73 = .ok (.iastore, 1) := by decide +kernel
theorem dX9_row_74 : decode cX9_row 74 = .ok (.iconst 0, 1) := by decide +kernel
theorem dX9_row_75 : decode cX9_row 75 = .ok (.istore 4, 2) := by decide +kernel
theorem dX9_row_77 : decode cX9_row 77 = .ok (.iload 4, 2) := by decide +kernel
theorem dX9_row_79 : decode cX9_row 79 = .ok (.sipush 160, 3) := by decide +kernel
theorem dX9_row_82 : decode cX9_row 82 = .ok (.if_icmp .ge 23, 3) := by decide +kernel
theorem dX9_row_85 : decode cX9_row 85 = .ok (.aload_n 0, 1) := by decide +kernel
theorem dX9_row_86 : decode cX9_row 86 = .ok (.getfield 41, 3) := by decide +kernel
theorem dX9_row_89 : decode cX9_row 89 = .ok (.sipush 160, 3) := by decide +kernel
theorem dX9_row_92 : decode cX9_row 92 = .ok (.iload_n 1, 1) := by decide +kernel
theorem dX9_row_93 : decode cX9_row 93 = .ok (.imul, 1) := by decide +kernel
theorem dX9_row_94 : decode cX9_row 94 = .ok (.iload 4, 2) := by decide +kernel
theorem dX9_row_96 : decode cX9_row 96 = .ok (.iadd, 1) := by decide +kernel
theorem dX9_row_97 : decode cX9_row 97 = .ok (.lconst 0, 1) := by decide +kernel
theorem dX9_row_98 : decode cX9_row 98 = .ok (.lastore, 1) := by decide +kernel
theorem dX9_row_99 : decode cX9_row 99 = .ok (.iinc 4 1, 3) := by decide +kernel
theorem dX9_row_102 : decode cX9_row 102 = .ok (.goto (-25), 3) := by decide +kernel
theorem dX9_row_105 : decode cX9_row 105 = .ok (.iconst 1, 1) := by decide +kernel
theorem dX9_row_106 : decode cX9_row 106 = .ok (.ireturn, 1) := by decide +kernel
theorem dX9_noRow_0 : decode cX9_noRow 0 = .ok (.iload_n 1, 1) := by decide +kernel
theorem dX9_noRow_1 : decode cX9_noRow 1 = .ok (.iconst 0, 1) := by decide +kernel
theorem dX9_noRow_2 : decode cX9_noRow 2 = .ok (.bipush 7, 2) := by decide +kernel
theorem dX9_noRow_4 : decode cX9_noRow 4 = .ok (.invokestatic 86, 3) := by decide +kernel
theorem dX9_noRow_7 : decode cX9_noRow 7 = .ok (.ifCond .ne 5, 3) := by decide +kernel
theorem dX9_noRow_10 : decode cX9_noRow 10 = .ok (.iconst (-1), 1) := by decide +kernel
theorem dX9_noRow_11 : decode cX9_noRow 11 = .ok (.ireturn, 1) := by decide +kernel
theorem dX9_noRow_12 : decode cX9_noRow 12 = .ok (.aload_n 0, 1) := by decide +kernel
theorem dX9_noRow_13 : decode cX9_noRow 13 = .ok (.getfield 35, 3) := by decide +kernel
theorem dX9_noRow_16 : decode cX9_noRow 16 = .ok (.iload_n 1, 1) := by decide +kernel
theorem dX9_noRow_17 : decode cX9_noRow 17 = .ok (.iaload, 1) := by decide +kernel
theorem dX9_noRow_18 : decode cX9_noRow 18 = .ok (.ifCond .lt 14, 3) := by decide +kernel
theorem dX9_noRow_21 : decode cX9_noRow 21 = .ok (.aload_n 0, 1) := by decide +kernel
theorem dX9_noRow_22 : decode cX9_noRow 22 = .ok (.iload_n 1, 1) := by decide +kernel
theorem dX9_noRow_23 : decode cX9_noRow 23 = .ok (.invokevirtual 90, 3) := by decide +kernel
theorem dX9_noRow_26 : decode cX9_noRow 26 = .ok (.ifCond .ne 6, 3) := by decide +kernel
theorem dX9_noRow_29 : decode cX9_noRow 29 = .ok (.bipush (-2), 2) := by decide +kernel
theorem dX9_noRow_31 : decode cX9_noRow 31 = .ok (.ireturn, 1) := by decide +kernel
theorem dX9_noRow_32 : decode cX9_noRow 32 = .ok (.aload_n 0, 1) := by decide +kernel
theorem dX9_noRow_33 : decode cX9_noRow 33 = .ok (.getfield 35, 3) := by decide +kernel
theorem dX9_noRow_36 : decode cX9_noRow 36 = .ok (.iload_n 1, 1) := by decide +kernel
theorem dX9_noRow_37 : decode cX9_noRow 37 = .ok (.iaload, 1) := by decide +kernel
theorem dX9_noRow_38 : decode cX9_noRow 38 = .ok (.ifCond .ge 8, 3) := by decide +kernel
theorem dX9_noRow_41 : decode cX9_noRow 41 = .ok (.bipush (-3), 2) := by decide +kernel
theorem dX9_noRow_43 : decode cX9_noRow 43 = .ok (.goto 4, 3) := by decide +kernel
theorem dX9_noRow_46 : decode cX9_noRow 46 = .ok (.iconst 0, 1) := by decide +kernel
theorem dX9_noRow_47 : decode cX9_noRow 47 = .ok (.ireturn, 1) := by decide +kernel
theorem dX9_set_0 : decode cX9_set 0 = .ok (.aload_n 0, 1) := by decide +kernel
theorem dX9_set_1 : decode cX9_set 1 = .ok (.iload_n 1, 1) := by decide +kernel
theorem dX9_set_2 : decode cX9_set 2 = .ok (.invokevirtual 94, 3) := by decide +kernel
theorem dX9_set_5 : decode cX9_set 5 = .ok (.istore 5, 2) := by decide +kernel
theorem dX9_set_7 : decode cX9_set 7 = .ok (.iload 5, 2) := by decide +kernel
theorem dX9_set_9 : decode cX9_set 9 = .ok (.ifCond .ge 10, 3) := by decide +kernel
theorem dX9_set_12 : decode cX9_set 12 = .ok (.aload_n 0, 1) := by decide +kernel
theorem dX9_set_13 : decode cX9_set 13 = .ok (.iload 5, 2) := by decide +kernel
theorem dX9_set_15 : decode cX9_set 15 = .ok (.invokevirtual 79, 3) := by decide +kernel
theorem dX9_set_18 : decode cX9_set 18 = .ok (.ireturn, 1) := by decide +kernel
theorem dX9_set_19 : decode cX9_set 19 = .ok (.iload_n 2, 1) := by decide +kernel
theorem dX9_set_20 : decode cX9_set 20 = .ok (.iconst 0, 1) := by decide +kernel
theorem dX9_set_21 : decode cX9_set 21 = .ok (.aload_n 0, 1) := by decide +kernel
theorem dX9_set_22 : decode cX9_set 22 = .ok (.getfield 38, 3) := by decide +kernel
theorem dX9_set_25 : decode cX9_set 25 = .ok (.iload_n 1, 1) := by decide +kernel
theorem dX9_set_26 : decode cX9_set 26 = .ok (.iaload, 1) := by decide +kernel
theorem dX9_set_27 : decode cX9_set 27 = .ok (.iconst 1, 1) := by decide +kernel
theorem dX9_set_28 : decode cX9_set 28 = .ok (.isub, 1) := by decide +kernel
theorem dX9_set_29 : decode cX9_set 29 = .ok (.invokestatic 86, 3) := by decide +kernel
theorem dX9_set_32 : decode cX9_set 32 = .ok (.ifCond .ne 10, 3) := by decide +kernel
theorem dX9_set_35 : decode cX9_set 35 = .ok (.aload_n 0, 1) := by decide +kernel
theorem dX9_set_36 : decode cX9_set 36 = .ok (.bipush (-5), 2) := by decide +kernel
theorem dX9_set_38 : decode cX9_set 38 = .ok (.invokevirtual 79, 3) := by decide +kernel
theorem dX9_set_41 : decode cX9_set 41 = .ok (.ireturn, 1) := by decide +kernel
theorem dX9_set_42 : decode cX9_set 42 = .ok (.aload_n 0, 1) := by decide +kernel
theorem dX9_set_43 : decode cX9_set 43 = .ok (.getfield 35, 3) := by decide +kernel
theorem dX9_set_46 : decode cX9_set 46 = .ok (.iload_n 1, 1) := by decide +kernel
theorem dX9_set_47 : decode cX9_set 47 = .ok (.iaload, 1) := by decide +kernel
theorem dX9_set_48 : decode cX9_set 48 = .ok (.bipush 100, 2) := by decide +kernel
theorem dX9_set_50 : decode cX9_set 50 = .ok (.isub, 1) := by decide +kernel
theorem dX9_set_51 : decode cX9_set 51 = .ok (.istore 6, 2) := by decide +kernel
theorem dX9_set_53 : decode cX9_set 53 = .ok (.aload_n 0, 1) := by decide +kernel
theorem dX9_set_54 : decode cX9_set 54 = .ok (.getfield 41, 3) := by decide +kernel
theorem dX9_set_57 : decode cX9_set 57 = .ok (.sipush 160, 3) := by decide +kernel
theorem dX9_set_60 : decode cX9_set 60 = .ok (.iload_n 1, 1) := by decide +kernel
theorem dX9_set_61 : decode cX9_set 61 = .ok (.imul, 1) := by decide +kernel
theorem dX9_set_62 : decode cX9_set 62 = .ok (.iload_n 2, 1) := by decide +kernel
theorem dX9_set_63 : decode cX9_set 63 = .ok (.iadd, 1) := by decide +kernel
theorem dX9_set_64 : decode cX9_set 64 = .ok (.iload 6, 2) := by decide +kernel
theorem dX9_set_66 : decode cX9_set 66 = .ok (.ifCond .ne 10, 3) := by decide +kernel
theorem dX9_set_69 : decode cX9_set 69 = .ok (.lload_n 3, 1) := by decide +kernel
theorem dX9_set_70 : decode cX9_set 70 = .ok (.l2i, 1) := by decide +kernel
theorem dX9_set_71 : decode cX9_set 71 = .ok (.i2b, 1) := by decide +kernel
theorem dX9_set_72 : decode cX9_set 72 = .ok (.i2l, 1) := by decide +kernel
theorem dX9_set_73 : decode cX9_set 73 = .ok (.goto 29, 3) := by decide +kernel
theorem dX9_set_76 : decode cX9_set 76 = .ok (.iload 6, 2) := by decide +kernel
theorem dX9_set_78 : decode cX9_set 78 = .ok (.iconst 1, 1) := by decide +kernel
theorem dX9_set_79 : decode cX9_set 79 = .ok (.if_icmp .ne 10, 3) := by decide +kernel
theorem dX9_set_82 : decode cX9_set 82 = .ok (.lload_n 3, 1) := by decide +kernel
theorem dX9_set_83 : decode cX9_set 83 = .ok (.l2i, 1) := by decide +kernel
theorem dX9_set_84 : decode cX9_set 84 = .ok (.i2s, 1) := by decide +kernel
theorem dX9_set_85 : decode cX9_set 85 = .ok (.i2l, 1) := by decide +kernel
theorem dX9_set_86 : decode cX9_set 86 = .ok (.goto 16, 3) := by decide +kernel
theorem dX9_set_89 : decode cX9_set 89 = .ok (.iload 6, 2) := by decide +kernel
theorem dX9_set_91 : decode cX9_set 91 = .ok (.iconst 2, 1) := by decide +kernel
theorem dX9_set_92 : decode cX9_set 92 = .ok (.if_icmp .ne 9, 3) := by decide +kernel
theorem dX9_set_95 : decode cX9_set 95 = .ok (.lload_n 3, 1) := by decide +kernel
theorem dX9_set_96 : decode cX9_set 96 = .ok (.l2i, 1) := by decide +kernel
theorem dX9_set_97 : decode cX9_set 97 = .ok (.i2l, 1) := by decide +kernel
theorem dX9_set_98 : decode cX9_set 98 = .ok (.goto 4, 3) := by decide +kernel
theorem dX9_set_101 : decode cX9_set 101 = .ok (.lload_n 3, 1) := by decide +kernel
theorem dX9_set_102 : decode cX9_set 102 = .ok (.lastore, 1) := by decide +kernel
theorem dX9_set_103 : decode cX9_set 103 = .ok (.iconst 1, 1) := by decide +kernel
theorem dX9_set_104 : decode cX9_set 104 = .ok (.ireturn, 1) := by decide +kernel
theorem dX9_copy_0 : decode cX9_copy 0 = .ok (.iload_n 1, 1) := by decide +kernel
theorem dX9_copy_1 : decode cX9_copy 1 = .ok (.iconst 0, 1) := by decide +kernel
theorem dX9_copy_2 : decode cX9_copy 2 = .ok (.bipush 7, 2) := by decide +kernel
theorem dX9_copy_4 : decode cX9_copy 4 = .ok (.invokestatic 86, 3) := by decide +kernel
theorem dX9_copy_7 : decode cX9_copy 7 = .ok (.ifCond .eq 13, 3) := by decide +kernel
theorem dX9_copy_10 : decode cX9_copy 10 = .ok (.iload_n 2, 1) := by decide +kernel
theorem dX9_copy_11 : decode cX9_copy 11 = .ok (.iconst 0, 1) := by decide +kernel
theorem dX9_copy_12 : decode cX9_copy 12 = .ok (.bipush 7, 2) := by decide +kernel
theorem dX9_copy_14 : decode cX9_copy 14 = .ok (.invokestatic 86, 3) := by decide +kernel
theorem dX9_copy_17 : decode cX9_copy 17 = .ok (.ifCond .ne 9, 3) := by decide +kernel
theorem dX9_copy_20 : decode cX9_copy 20 = .ok (.aload_n 0, 1) := by decide +kernel
theorem dX9_copy_21 : decode cX9_copy 21 = .ok (.iconst (-1), 1) := by decide +kernel
theorem dX9_copy_22 : decode cX9_copy 22 = .ok (.invokevirtual 79, 3) := by decide +kernel
theorem dX9_copy_25 : decode cX9_copy 25 = .ok (.ireturn, 1) := by decide +kernel
theorem dX9_copy_26 : decode cX9_copy 26 = .ok (.aload_n 0, 1) := by decide +kernel
theorem dX9_copy_27 : decode cX9_copy 27 = .ok (.getfield 35, 3) := by decide +kernel
theorem dX9_copy_30 : decode cX9_copy 30 = .ok (.iload_n 1, 1) := by decide +kernel
theorem dX9_copy_31 : decode cX9_copy 31 = .ok (.iaload, 1) := by decide +kernel
theorem dX9_copy_32 : decode cX9_copy 32 = .ok (.ifCond .lt 11, 3) := by decide +kernel
theorem dX9_copy_35 : decode cX9_copy 35 = .ok (.aload_n 0, 1) := by decide +kernel
theorem dX9_copy_36 : decode cX9_copy 36 = .ok (.iload_n 1, 1) := by decide +kernel
theorem dX9_copy_37 : decode cX9_copy 37 = .ok (.invokevirtual 90, 3) := by decide +kernel
theorem dX9_copy_40 : decode cX9_copy 40 = .ok (.ifCond .eq 51, 3) := by decide +kernel
theorem dX9_copy_43 : decode cX9_copy 43 = .ok (.aload_n 0, 1) := by decide +kernel
theorem dX9_copy_44 : decode cX9_copy 44 = .ok (.getfield 35, 3) := by decide +kernel
theorem dX9_copy_47 : decode cX9_copy 47 = .ok (.iload_n 2, 1) := by decide +kernel
theorem dX9_copy_48 : decode cX9_copy 48 = .ok (.iaload, 1) := by decide +kernel
theorem dX9_copy_49 : decode cX9_copy 49 = .ok (.ifCond .lt 11, 3) := by decide +kernel
theorem dX9_copy_52 : decode cX9_copy 52 = .ok (.aload_n 0, 1) := by decide +kernel
theorem dX9_copy_53 : decode cX9_copy 53 = .ok (.iload_n 2, 1) := by decide +kernel
theorem dX9_copy_54 : decode cX9_copy 54 = .ok (.invokevirtual 90, 3) := by decide +kernel
theorem dX9_copy_57 : decode cX9_copy 57 = .ok (.ifCond .eq 34, 3) := by decide +kernel
theorem dX9_copy_60 : decode cX9_copy 60 = .ok (.aload_n 0, 1) := by decide +kernel
theorem dX9_copy_61 : decode cX9_copy 61 = .ok (.iload_n 1, 1) := by decide +kernel
theorem dX9_copy_62 : decode cX9_copy 62 = .ok (.invokevirtual 90, 3) := by decide +kernel
theorem dX9_copy_65 : decode cX9_copy 65 = .ok (.ifCond .eq 33, 3) := by decide +kernel
theorem dX9_copy_68 : decode cX9_copy 68 = .ok (.aload_n 0, 1) := by decide +kernel
theorem dX9_copy_69 : decode cX9_copy 69 = .ok (.iload_n 2, 1) := by decide +kernel
theorem dX9_copy_70 : decode cX9_copy 70 = .ok (.invokevirtual 90, 3) := by decide +kernel
theorem dX9_copy_73 : decode cX9_copy 73 = .ok (.ifCond .eq 25, 3) := by decide +kernel
theorem dX9_copy_76 : decode cX9_copy 76 = .ok (.aload_n 0, 1) := by decide +kernel
theorem dX9_copy_77 : decode cX9_copy 77 = .ok (.getfield 35, 3) := by decide +kernel
theorem dX9_copy_80 : decode cX9_copy 80 = .ok (.iload_n 1, 1) := by decide +kernel
theorem dX9_copy_81 : decode cX9_copy 81 = .ok (.iaload, 1) := by decide +kernel
theorem dX9_copy_82 : decode cX9_copy 82 = .ok (.aload_n 0, 1) := by decide +kernel
theorem dX9_copy_83 : decode cX9_copy 83 = .ok (.getfield 35, 3) := by decide +kernel
theorem dX9_copy_86 : decode cX9_copy 86 = .ok (.iload_n 2, 1) := by decide +kernel
theorem dX9_copy_87 : decode cX9_copy 87 = .ok (.iaload, 1) := by decide +kernel
theorem dX9_copy_88 : decode cX9_copy 88 = .ok (.if_icmp .eq 10, 3) := by decide +kernel
theorem dX9_copy_91 : decode cX9_copy 91 = .ok (.aload_n 0, 1) := by decide +kernel
theorem dX9_copy_92 : decode cX9_copy 92 = .ok (.bipush (-2), 2) := by decide +kernel
theorem dX9_copy_94 : decode cX9_copy 94 = .ok (.invokevirtual 79, 3) := by decide +kernel
theorem dX9_copy_97 : decode cX9_copy 97 = .ok (.ireturn, 1) := by decide +kernel
theorem dX9_copy_98 : decode cX9_copy 98 = .ok (.aload_n 0, 1) := by decide +kernel
theorem dX9_copy_99 : decode cX9_copy 99 = .ok (.getfield 35, 3) := by decide +kernel
theorem dX9_copy_102 : decode cX9_copy 102 = .ok (.iload_n 1, 1) := by decide +kernel
theorem dX9_copy_103 : decode cX9_copy 103 = .ok (.iaload, 1) := by decide +kernel
theorem dX9_copy_104 : decode cX9_copy 104 = .ok (.ifCond .lt 12, 3) := by decide +kernel
theorem dX9_copy_107 : decode cX9_copy 107 = .ok (.aload_n 0, 1) := by decide +kernel
theorem dX9_copy_108 : decode cX9_copy 108 = .ok (.getfield 35, 3) := by decide +kernel
theorem dX9_copy_111 : decode cX9_copy 111 = .ok (.iload_n 2, 1) := by decide +kernel
theorem dX9_copy_112 : decode cX9_copy 112 = .ok (.iaload, 1) := by decide +kernel
theorem dX9_copy_113 : decode cX9_copy 113 = .ok (.ifCond .ge 10, 3) := by decide +kernel
theorem dX9_copy_116 : decode cX9_copy 116 = .ok (.aload_n 0, 1) := by decide +kernel
theorem dX9_copy_117 : decode cX9_copy 117 = .ok (.bipush (-3), 2) := by decide +kernel
theorem dX9_copy_119 : decode cX9_copy 119 = .ok (.invokevirtual 79, 3) := by decide +kernel
theorem dX9_copy_122 : decode cX9_copy 122 = .ok (.ireturn, 1) := by decide +kernel
theorem dX9_copy_123 : decode cX9_copy 123 = .ok (.iload 5, 2) := by decide +kernel
theorem dX9_copy_125 : decode cX9_copy 125 = .ok (.ifCond .ge 10, 3) := by decide +kernel
theorem dX9_copy_128 : decode cX9_copy 128 = .ok (.aload_n 0, 1) := by decide +kernel
theorem dX9_copy_129 : decode cX9_copy 129 = .ok (.bipush (-4), 2) := by decide +kernel
theorem dX9_copy_131 : decode cX9_copy 131 = .ok (.invokevirtual 79, 3) := by decide +kernel
theorem dX9_copy_134 : decode cX9_copy 134 = .ok (.ireturn, 1) := by decide +kernel
theorem dX9_copy_135 : decode cX9_copy 135 = .ok (.iload_n 3, 1) := by decide +kernel
theorem dX9_copy_136 : decode cX9_copy 136 = .ok (.ifCond .lt 43, 3) := by decide +kernel
theorem dX9_copy_139 : decode cX9_copy 139 = .ok (.iload 4, 2) := by decide +kernel
theorem dX9_copy_141 : decode cX9_copy 141 = .ok (.ifCond .lt 38, 3) := by decide +kernel
theorem dX9_copy_144 : decode cX9_copy 144 = .ok (.iload_n 3, 1) := by decide +kernel
theorem dX9_copy_145 : decode cX9_copy 145 = .ok (.i2l, 1) := by decide +kernel
theorem dX9_copy_146 : decode cX9_copy 146 = .ok (.iload 5, 2) := by decide +kernel
theorem dX9_copy_148 : decode cX9_copy 148 = .ok (.i2l, 1) := by decide +kernel
theorem dX9_copy_149 : decode cX9_copy 149 = .ok (.ladd, 1) := by decide +kernel
theorem dX9_copy_150 : decode cX9_copy 150 = .ok (.aload_n 0, 1) := by decide +kernel
theorem dX9_copy_151 : decode cX9_copy 151 = .ok (.getfield 38, 3) := by decide +kernel
theorem dX9_copy_154 : decode cX9_copy 154 = .ok (.iload_n 1, 1) := by decide +kernel
theorem dX9_copy_155 : decode cX9_copy 155 = .ok (.iaload, 1) := by decide +kernel
theorem dX9_copy_156 : decode cX9_copy 156 = .ok (.i2l, 1) := by decide +kernel
theorem dX9_copy_157 : decode cX9_copy 157 = .ok (.lcmp, 1) := by decide +kernel
theorem dX9_copy_158 : decode cX9_copy 158 = .ok (.ifCond .gt 21, 3) := by decide +kernel
theorem dX9_copy_161 : decode cX9_copy 161 = .ok (.iload 4, 2) := by decide +kernel
theorem dX9_copy_163 : decode cX9_copy 163 = .ok (.i2l, 1) := by decide +kernel
theorem dX9_copy_164 : decode cX9_copy 164 = .ok (.iload 5, 2) := by decide +kernel
theorem dX9_copy_166 : decode cX9_copy 166 = .ok (.i2l, 1) := by decide +kernel
theorem dX9_copy_167 : decode cX9_copy 167 = .ok (.ladd, 1) := by decide +kernel
theorem dX9_copy_168 : decode cX9_copy 168 = .ok (.aload_n 0, 1) := by decide +kernel
theorem dX9_copy_169 : decode cX9_copy 169 = .ok (.getfield 38, 3) := by decide +kernel
theorem dX9_copy_172 : decode cX9_copy 172 = .ok (.iload_n 2, 1) := by decide +kernel
theorem dX9_copy_173 : decode cX9_copy 173 = .ok (.iaload, 1) := by decide +kernel
theorem dX9_copy_174 : decode cX9_copy 174 = .ok (.i2l, 1) := by decide +kernel
theorem dX9_copy_175 : decode cX9_copy 175 = .ok (.lcmp, 1) := by decide +kernel
theorem dX9_copy_176 : decode cX9_copy 176 = .ok (.ifCond .le 10, 3) := by decide +kernel
theorem dX9_copy_179 : decode cX9_copy 179 = .ok (.aload_n 0, 1) := by decide +kernel
theorem dX9_copy_180 : decode cX9_copy 180 = .ok (.bipush (-5), 2) := by decide +kernel
theorem dX9_copy_182 : decode cX9_copy 182 = .ok (.invokevirtual 79, 3) := by decide +kernel
theorem dX9_copy_185 : decode cX9_copy 185 = .ok (.ireturn, 1) := by decide +kernel
theorem dX9_copy_186 : decode cX9_copy 186 = .ok (.iload_n 1, 1) := by decide +kernel
theorem dX9_copy_187 : decode cX9_copy 187 = .ok (.iload_n 2, 1) := by decide +kernel
theorem dX9_copy_188 : decode cX9_copy 188 = .ok (.if_icmp .ne 60, 3) := by decide +kernel
theorem dX9_copy_191 : decode cX9_copy 191 = .ok (.iload_n 3, 1) := by decide +kernel
theorem dX9_copy_192 : decode cX9_copy 192 = .ok (.iload 4, 2) := by decide +kernel
theorem dX9_copy_194 : decode cX9_copy 194 = .ok (.if_icmp .ge 54, 3) := by decide +kernel
theorem dX9_copy_197 : decode cX9_copy 197 = .ok (.iload 5, 2) := by decide +kernel
theorem dX9_copy_199 : decode cX9_copy 199 = .ok (.iconst 1, 1) := by decide +kernel
theorem dX9_copy_200 : decode cX9_copy 200 = .ok (.isub, 1) := by decide +kernel
theorem dX9_copy_201 : decode cX9_copy 201 = .ok (.istore 6, 2) := by decide +kernel
theorem dX9_copy_203 : decode cX9_copy 203 = .ok (.iload 6, 2) := by decide +kernel
theorem dX9_copy_205 : decode cX9_copy 205 = .ok (.ifCond .lt 40, 3) := by decide +kernel
theorem dX9_copy_208 : decode cX9_copy 208 = .ok (.aload_n 0, 1) := by decide +kernel
theorem dX9_copy_209 : decode cX9_copy 209 = .ok (.getfield 41, 3) := by decide +kernel
theorem dX9_copy_212 : decode cX9_copy 212 = .ok (.sipush 160, 3) := by decide +kernel
theorem dX9_copy_215 : decode cX9_copy 215 = .ok (.iload_n 2, 1) := by decide +kernel
theorem dX9_copy_216 : decode cX9_copy 216 = .ok (.imul, 1) := by decide +kernel
theorem dX9_copy_217 : decode cX9_copy 217 = .ok (.iload 4, 2) := by decide +kernel
theorem dX9_copy_219 : decode cX9_copy 219 = .ok (.iadd, 1) := by decide +kernel
theorem dX9_copy_220 : decode cX9_copy 220 = .ok (.iload 6, 2) := by decide +kernel
theorem dX9_copy_222 : decode cX9_copy 222 = .ok (.iadd, 1) := by decide +kernel
theorem dX9_copy_223 : decode cX9_copy 223 = .ok (.aload_n 0, 1) := by decide +kernel
theorem dX9_copy_224 : decode cX9_copy 224 = .ok (.getfield 41, 3) := by decide +kernel
theorem dX9_copy_227 : decode cX9_copy 227 = .ok (.sipush 160, 3) := by decide +kernel
theorem dX9_copy_230 : decode cX9_copy 230 = .ok (.iload_n 1, 1) := by decide +kernel
theorem dX9_copy_231 : decode cX9_copy 231 = .ok (.imul, 1) := by decide +kernel
theorem dX9_copy_232 : decode cX9_copy 232 = .ok (.iload_n 3, 1) := by decide +kernel
theorem dX9_copy_233 : decode cX9_copy 233 = .ok (.iadd, 1) := by decide +kernel
theorem dX9_copy_234 : decode cX9_copy 234 = .ok (.iload 6, 2) := by decide +kernel
theorem dX9_copy_236 : decode cX9_copy 236 = .ok (.iadd, 1) := by decide +kernel
theorem dX9_copy_237 : decode cX9_copy 237 = .ok (.laload, 1) := by decide +kernel
theorem dX9_copy_238 : decode cX9_copy 238 = .ok (.lastore, 1) := by decide +kernel
theorem dX9_copy_239 : decode cX9_copy 239 = .ok (.iinc 6 (-1), 3) := by decide +kernel
theorem dX9_copy_242 : decode cX9_copy 242 = .ok (.goto (-39), 3) := by decide +kernel
theorem dX9_copy_245 : decode cX9_copy 245 = .ok (.goto 50, 3) := by decide +kernel
theorem dX9_copy_248 : decode cX9_copy 248 = .ok (.iconst 0, 1) := by decide +kernel
theorem dX9_copy_249 : decode cX9_copy 249 = .ok (.istore 6, 2) := by decide +kernel
theorem dX9_copy_251 : decode cX9_copy 251 = .ok (.iload 6, 2) := by decide +kernel
theorem dX9_copy_253 : decode cX9_copy 253 = .ok (.iload 5, 2) := by decide +kernel
theorem dX9_copy_255 : decode cX9_copy 255 = .ok (.if_icmp .ge 40, 3) := by decide +kernel
theorem dX9_copy_258 : decode cX9_copy 258 = .ok (.aload_n 0, 1) := by decide +kernel
theorem dX9_copy_259 : decode cX9_copy 259 = .ok (.getfield 41, 3) := by decide +kernel
theorem dX9_copy_262 : decode cX9_copy 262 = .ok (.sipush 160, 3) := by decide +kernel
theorem dX9_copy_265 : decode cX9_copy 265 = .ok (.iload_n 2, 1) := by decide +kernel
theorem dX9_copy_266 : decode cX9_copy 266 = .ok (.imul, 1) := by decide +kernel
theorem dX9_copy_267 : decode cX9_copy 267 = .ok (.iload 4, 2) := by decide +kernel
theorem dX9_copy_269 : decode cX9_copy 269 = .ok (.iadd, 1) := by decide +kernel
theorem dX9_copy_270 : decode cX9_copy 270 = .ok (.iload 6, 2) := by decide +kernel
theorem dX9_copy_272 : decode cX9_copy 272 = .ok (.iadd, 1) := by decide +kernel
theorem dX9_copy_273 : decode cX9_copy 273 = .ok (.aload_n 0, 1) := by decide +kernel
theorem dX9_copy_274 : decode cX9_copy 274 = .ok (.getfield 41, 3) := by decide +kernel
theorem dX9_copy_277 : decode cX9_copy 277 = .ok (.sipush 160, 3) := by decide +kernel
theorem dX9_copy_280 : decode cX9_copy 280 = .ok (.iload_n 1, 1) := by decide +kernel
theorem dX9_copy_281 : decode cX9_copy 281 = .ok (.imul, 1) := by decide +kernel
theorem dX9_copy_282 : decode cX9_copy 282 = .ok (.iload_n 3, 1) := by decide +kernel
theorem dX9_copy_283 : decode cX9_copy 283 = .ok (.iadd, 1) := by decide +kernel
theorem dX9_copy_284 : decode cX9_copy 284 = .ok (.iload 6, 2) := by decide +kernel
theorem dX9_copy_286 : decode cX9_copy 286 = .ok (.iadd, 1) := by decide +kernel
theorem dX9_copy_287 : decode cX9_copy 287 = .ok (.laload, 1) := by decide +kernel
theorem dX9_copy_288 : decode cX9_copy 288 = .ok (.lastore, 1) := by decide +kernel
theorem dX9_copy_289 : decode cX9_copy 289 = .ok (.iinc 6 1, 3) := by decide +kernel
theorem dX9_copy_292 : decode cX9_copy 292 = .ok (.goto (-41), 3) := by decide +kernel
theorem dX9_copy_295 : decode cX9_copy 295 = .ok (.iconst 1, 1) := by decide +kernel
theorem dX9_copy_296 : decode cX9_copy 296 = .ok (.ireturn, 1) := by decide +kernel
theorem dX9_element_0 : decode cX9_element 0 = .ok (.iload_n 1, 1) := by decide +kernel
theorem dX9_element_1 : decode cX9_element 1 = .ok (.iconst 0, 1) := by decide +kernel
theorem dX9_element_2 : decode cX9_element 2 = .ok (.bipush 7, 2) := by decide +kernel
theorem dX9_element_4 : decode cX9_element 4 = .ok (.invokestatic 86, 3) := by decide +kernel
theorem dX9_element_7 : decode cX9_element 7 = .ok (.ifCond .eq 42, 3) := by decide +kernel
theorem dX9_element_10 : decode cX9_element 10 = .ok (.aload_n 0, 1) := by decide +kernel
theorem dX9_element_11 : decode cX9_element 11 = .ok (.iload_n 1, 1) := by decide +kernel
theorem dX9_element_12 : decode cX9_element 12 = .ok (.invokevirtual 90, 3) := by decide +kernel
theorem dX9_element_15 : decode cX9_element 15 = .ok (.ifCond .eq 34, 3) := by decide +kernel
theorem dX9_element_18 : decode cX9_element 18 = .ok (.iload_n 2, 1) := by decide +kernel
theorem dX9_element_19 : decode cX9_element 19 = .ok (.iconst 0, 1) := by decide +kernel
theorem dX9_element_20 : decode cX9_element 20 = .ok (.aload_n 0, 1) := by decide +kernel
theorem dX9_element_21 : decode cX9_element 21 = .ok (.getfield 38, 3) := by decide +kernel
theorem dX9_element_24 : decode cX9_element 24 = .ok (.iload_n 1, 1) := by decide +kernel
theorem dX9_element_25 : decode cX9_element 25 = .ok (.iaload, 1) := by decide +kernel
theorem dX9_element_26 : decode cX9_element 26 = .ok (.iconst 1, 1) := by decide +kernel
theorem dX9_element_27 : decode cX9_element 27 = .ok (.isub, 1) := by decide +kernel
theorem dX9_element_28 : decode cX9_element 28 = .ok (.invokestatic 86, 3) := by decide +kernel
theorem dX9_element_31 : decode cX9_element 31 = .ok (.ifCond .eq 18, 3) := by decide +kernel
theorem dX9_element_34 : decode cX9_element 34 = .ok (.aload_n 0, 1) := by decide +kernel
theorem dX9_element_35 : decode cX9_element 35 = .ok (.getfield 41, 3) := by decide +kernel
theorem dX9_element_38 : decode cX9_element 38 = .ok (.sipush 160, 3) := by decide +kernel
theorem dX9_element_41 : decode cX9_element 41 = .ok (.iload_n 1, 1) := by decide +kernel
theorem dX9_element_42 : decode cX9_element 42 = .ok (.imul, 1) := by decide +kernel
theorem dX9_element_43 : decode cX9_element 43 = .ok (.iload_n 2, 1) := by decide +kernel
theorem dX9_element_44 : decode cX9_element 44 = .ok (.iadd, 1) := by decide +kernel
theorem dX9_element_45 : decode cX9_element 45 = .ok (.laload, 1) := by decide +kernel
theorem dX9_element_46 : decode cX9_element 46 = .ok (.goto 4, 3) := by decide +kernel
theorem dX9_element_49 : decode cX9_element 49 = .ok (.lconst 0, 1) := by decide +kernel
theorem dX9_element_50 : decode cX9_element 50 = .ok (.lreturn, 1) := by decide +kernel
theorem dX9_show_0 : decode cX9_show 0 = .ok (.iload_n 1, 1) := by decide +kernel
theorem dX9_show_1 : decode cX9_show 1 = .ok (.iconst 0, 1) := by decide +kernel
theorem dX9_show_2 : decode cX9_show 2 = .ok (.bipush 7, 2) := by decide +kernel
theorem dX9_show_4 : decode cX9_show 4 = .ok (.invokestatic 86, 3) := by decide +kernel
theorem dX9_show_7 : decode cX9_show 7 = .ok (.ifCond .eq 16, 3) := by decide +kernel
theorem dX9_show_10 : decode cX9_show 10 = .ok (.iload_n 2, 1) := by decide +kernel
theorem dX9_show_11 : decode cX9_show 11 = .ok (.iconst (-1), 1) := by decide +kernel
theorem dX9_show_12 : decode cX9_show 12 = .ok (.if_icmp .eq 17, 3) := by decide +kernel
theorem dX9_show_15 : decode cX9_show 15 = .ok (.aload_n 0, 1) := by decide +kernel
theorem dX9_show_16 : decode cX9_show 16 = .ok (.iload_n 2, 1) := by decide +kernel
theorem dX9_show_17 : decode cX9_show 17 = .ok (.invokevirtual 97, 3) := by decide +kernel
theorem dX9_show_20 : decode cX9_show 20 = .ok (.ifCond .ne 9, 3) := by decide +kernel
theorem dX9_show_23 : decode cX9_show 23 = .ok (.aload_n 0, 1) := by decide +kernel
theorem dX9_show_24 : decode cX9_show 24 = .ok (.iconst (-1), 1) := by decide +kernel
theorem dX9_show_25 : decode cX9_show 25 = .ok (.invokevirtual 79, 3) := by decide +kernel
theorem dX9_show_28 : decode cX9_show 28 = .ok (.ireturn, 1) := by decide +kernel
theorem dX9_show_29 : decode cX9_show 29 = .ok (.aload_n 0, 1) := by decide +kernel
theorem dX9_show_30 : decode cX9_show 30 = .ok (.getfield 35, 3) := by decide +kernel
theorem dX9_show_33 : decode cX9_show 33 = .ok (.iload_n 1, 1) := by decide +kernel
theorem dX9_show_34 : decode cX9_show 34 = .ok (.iload_n 2, 1) := by decide +kernel
theorem dX9_show_35 : decode cX9_show 35 = .ok (.iastore, 1) := by decide +kernel
theorem dX9_show_36 : decode cX9_show 36 = .ok (.iload_n 2, 1) := by decide +kernel
theorem dX9_show_37 : decode cX9_show 37 = .ok (.iconst (-1), 1) := by decide +kernel
theorem dX9_show_38 : decode cX9_show 38 = .ok (.if_icmp .ne 7, 3) := by decide +kernel
theorem dX9_show_41 : decode cX9_show 41 = .ok (.iconst 0, 1) := by decide +kernel
theorem dX9_show_42 : decode cX9_show 42 = .ok (.goto 4, 3) := by decide +kernel
theorem dX9_show_45 : decode cX9_show 45 = .ok (.iconst 1, 1) := by decide +kernel
theorem dX9_show_46 : decode cX9_show 46 = .ok (.ireturn, 1) := by decide +kernel
theorem dX9_holds_0 : decode cX9_holds 0 = .ok (.iload_n 1, 1) := by decide +kernel
theorem dX9_holds_1 : decode cX9_holds 1 = .ok (.iconst 0, 1) := by decide +kernel
theorem dX9_holds_2 : decode cX9_holds 2 = .ok (.bipush 7, 2) := by decide +kernel
theorem dX9_holds_4 : decode cX9_holds 4 = .ok (.invokestatic 86, 3) := by decide +kernel
theorem dX9_holds_7 : decode cX9_holds 7 = .ok (.ifCond .eq 12, 3) := by decide +kernel
theorem dX9_holds_10 : decode cX9_holds 10 = .ok (.aload_n 0, 1) := by decide +kernel
theorem dX9_holds_11 : decode cX9_holds 11 = .ok (.getfield 35, 3) := by decide +kernel
theorem dX9_holds_14 : decode cX9_holds 14 = .ok (.iload_n 1, 1) := by decide +kernel
theorem dX9_holds_15 : decode cX9_holds 15 = .ok (.iaload, 1) := by decide +kernel
theorem dX9_holds_16 : decode cX9_holds 16 = .ok (.goto 4, 3) := by decide +kernel
theorem dX9_holds_19 : decode cX9_holds 19 = .ok (.iconst (-1), 1) := by decide +kernel
theorem dX9_holds_20 : decode cX9_holds 20 = .ok (.ireturn, 1) := by decide +kernel
theorem dX9_above_0 : decode cX9_above 0 = .ok (.iload_n 0, 1) := by decide +kernel
theorem dX9_above_1 : decode cX9_above 1 = .ok (.iconst 3, 1) := by decide +kernel
theorem dX9_above_2 : decode cX9_above 2 = .ok (.if_icmp .ne 7, 3) := by decide +kernel
theorem dX9_above_5 : decode cX9_above 5 = .ok (.iconst 1, 1) := by decide +kernel
theorem dX9_above_6 : decode cX9_above 6 = .ok (.goto 23, 3) := by decide +kernel
theorem dX9_above_9 : decode cX9_above 9 = .ok (.iload_n 0, 1) := by decide +kernel
theorem dX9_above_10 : decode cX9_above 10 = .ok (.iconst 5, 1) := by decide +kernel
theorem dX9_above_11 : decode cX9_above 11 = .ok (.if_icmp .ne 7, 3) := by decide +kernel
theorem dX9_above_14 : decode cX9_above 14 = .ok (.iconst 2, 1) := by decide +kernel
theorem dX9_above_15 : decode cX9_above 15 = .ok (.goto 14, 3) := by decide +kernel
theorem dX9_above_18 : decode cX9_above 18 = .ok (.iload_n 0, 1) := by decide +kernel
theorem dX9_above_19 : decode cX9_above 19 = .ok (.bipush 6, 2) := by decide +kernel
theorem dX9_above_21 : decode cX9_above 21 = .ok (.if_icmp .ne 7, 3) := by decide +kernel
theorem dX9_above_24 : decode cX9_above 24 = .ok (.iconst 3, 1) := by decide +kernel
theorem dX9_above_25 : decode cX9_above 25 = .ok (.goto 4, 3) := by decide +kernel
theorem dX9_above_28 : decode cX9_above 28 = .ok (.iconst 0, 1) := by decide +kernel
theorem dX9_above_29 : decode cX9_above 29 = .ok (.ireturn, 1) := by decide +kernel
theorem dX9_isUnder_0 : decode cX9_isUnder 0 = .ok (.iload_n 0, 1) := by decide +kernel
theorem dX9_isUnder_1 : decode cX9_isUnder 1 = .ok (.istore_n 2, 1) := by decide +kernel
theorem dX9_isUnder_2 : decode cX9_isUnder 2 = .ok (.iload_n 2, 1) := by decide +kernel
theorem dX9_isUnder_3 : decode cX9_isUnder 3 = .ok (.iload_n 1, 1) := by decide +kernel
theorem dX9_isUnder_4 : decode cX9_isUnder 4 = .ok (.if_icmp .eq 15, 3) := by decide +kernel
theorem dX9_isUnder_7 : decode cX9_isUnder 7 = .ok (.iload_n 2, 1) := by decide +kernel
theorem dX9_isUnder_8 : decode cX9_isUnder 8 = .ok (.ifCond .le 11, 3) := by decide +kernel
theorem dX9_isUnder_11 : decode cX9_isUnder 11 = .ok (.iload_n 2, 1) := by decide +kernel
theorem dX9_isUnder_12 : decode cX9_isUnder 12 = .ok (.invokestatic 100, 3) := by decide +kernel
theorem dX9_isUnder_15 : decode cX9_isUnder 15 = .ok (.istore_n 2, 1) := by decide +kernel
theorem dX9_isUnder_16 : decode cX9_isUnder 16 = .ok (.goto (-14), 3) := by decide +kernel
theorem dX9_isUnder_19 : decode cX9_isUnder 19 = .ok (.iload_n 2, 1) := by decide +kernel
theorem dX9_isUnder_20 : decode cX9_isUnder 20 = .ok (.iload_n 1, 1) := by decide +kernel
theorem dX9_isUnder_21 : decode cX9_isUnder 21 = .ok (.if_icmp .ne 7, 3) := by decide +kernel
theorem dX9_isUnder_24 : decode cX9_isUnder 24 = .ok (.iconst 1, 1) := by decide +kernel
theorem dX9_isUnder_25 : decode cX9_isUnder 25 = .ok (.goto 4, 3) := by decide +kernel
theorem dX9_isUnder_28 : decode cX9_isUnder 28 = .ok (.iconst 0, 1) := by decide +kernel
theorem dX9_isUnder_29 : decode cX9_isUnder 29 = .ok (.ireturn, 1) := by decide +kernel
theorem dX9_says_0 : decode cX9_says 0 = .ok (.iload_n 1, 1) := by decide +kernel
theorem dX9_says_1 : decode cX9_says 1 = .ok (.iconst 0, 1) := by decide +kernel
theorem dX9_says_2 : decode cX9_says 2 = .ok (.bipush 7, 2) := by decide +kernel
theorem dX9_says_4 : decode cX9_says 4 = .ok (.invokestatic 86, 3) := by decide +kernel
theorem dX9_says_7 : decode cX9_says 7 = .ok (.ifCond .eq 13, 3) := by decide +kernel
theorem dX9_says_10 : decode cX9_says 10 = .ok (.iload_n 2, 1) := by decide +kernel
theorem dX9_says_11 : decode cX9_says 11 = .ok (.iconst 0, 1) := by decide +kernel
theorem dX9_says_12 : decode cX9_says 12 = .ok (.bipush 6, 2) := by decide +kernel
theorem dX9_says_14 : decode cX9_says 14 = .ok (.invokestatic 86, 3) := by decide +kernel
theorem dX9_says_17 : decode cX9_says 17 = .ok (.ifCond .ne 9, 3) := by decide +kernel
theorem dX9_says_20 : decode cX9_says 20 = .ok (.aload_n 0, 1) := by decide +kernel
theorem dX9_says_21 : decode cX9_says 21 = .ok (.iconst (-1), 1) := by decide +kernel
theorem dX9_says_22 : decode cX9_says 22 = .ok (.invokevirtual 79, 3) := by decide +kernel
theorem dX9_says_25 : decode cX9_says 25 = .ok (.ireturn, 1) := by decide +kernel
theorem dX9_says_26 : decode cX9_says 26 = .ok (.aload_n 0, 1) := by decide +kernel
theorem dX9_says_27 : decode cX9_says 27 = .ok (.getfield 35, 3) := by decide +kernel
theorem dX9_says_30 : decode cX9_says 30 = .ok (.iload_n 1, 1) := by decide +kernel
theorem dX9_says_31 : decode cX9_says 31 = .ok (.iaload, 1) := by decide +kernel
theorem dX9_says_32 : decode cX9_says 32 = .ok (.istore_n 3, 1) := by decide +kernel
theorem dX9_says_33 : decode cX9_says 33 = .ok (.iload_n 3, 1) := by decide +kernel
theorem dX9_says_34 : decode cX9_says 34 = .ok (.ifCond .lt 31, 3) := by decide +kernel
theorem dX9_says_37 : decode cX9_says 37 = .ok (.aload_n 0, 1) := by decide +kernel
theorem dX9_says_38 : decode cX9_says 38 = .ok (.iload_n 1, 1) := by decide +kernel
theorem dX9_says_39 : decode cX9_says 39 = .ok (.invokevirtual 90, 3) := by decide +kernel
theorem dX9_says_42 : decode cX9_says 42 = .ok (.ifCond .ne 16, 3) := by decide +kernel
theorem dX9_says_45 : decode cX9_says 45 = .ok (.aload_n 0, 1) := by decide +kernel
theorem dX9_says_46 : decode cX9_says 46 = .ok (.getfield 7, 3) := by decide +kernel
theorem dX9_says_49 : decode cX9_says 49 = .ok (.iload_n 3, 1) := by decide +kernel
theorem dX9_says_50 : decode cX9_says 50 = .ok (.iaload, 1) := by decide +kernel
theorem dX9_says_51 : decode cX9_says 51 = .ok (.iload_n 2, 1) := by decide +kernel
theorem dX9_says_52 : decode cX9_says 52 = .ok (.invokestatic 103, 3) := by decide +kernel
theorem dX9_says_55 : decode cX9_says 55 = .ok (.ifCond .ne 10, 3) := by decide +kernel
theorem dX9_says_58 : decode cX9_says 58 = .ok (.aload_n 0, 1) := by decide +kernel
theorem dX9_says_59 : decode cX9_says 59 = .ok (.bipush (-2), 2) := by decide +kernel
theorem dX9_says_61 : decode cX9_says 61 = .ok (.invokevirtual 79, 3) := by decide +kernel
theorem dX9_says_64 : decode cX9_says 64 = .ok (.ireturn, 1) := by decide +kernel
theorem dX9_says_65 : decode cX9_says 65 = .ok (.iload_n 3, 1) := by decide +kernel
theorem dX9_says_66 : decode cX9_says 66 = .ok (.ifCond .ge 10, 3) := by decide +kernel
theorem dX9_says_69 : decode cX9_says 69 = .ok (.aload_n 0, 1) := by decide +kernel
theorem dX9_says_70 : decode cX9_says 70 = .ok (.bipush (-3), 2) := by decide +kernel
theorem dX9_says_72 : decode cX9_says 72 = .ok (.invokevirtual 79, 3) := by decide +kernel
theorem dX9_says_75 : decode cX9_says 75 = .ok (.ireturn, 1) := by decide +kernel
theorem dX9_says_76 : decode cX9_says 76 = .ok (.iload_n 2, 1) := by decide +kernel
theorem dX9_says_77 : decode cX9_says 77 = .ok (.tableswitch 60 0 5 #[39, 60, 46, 60, 53, 46], 39) := by decide +kernel
theorem dX9_says_116 : decode cX9_says 116 = .ok (.aload_n 0, 1) := by decide +kernel
theorem dX9_says_117 : decode cX9_says 117 = .ok (.getfield 22, 3) := by decide +kernel
theorem dX9_says_120 : decode cX9_says 120 = .ok (.iload_n 3, 1) := by decide +kernel
theorem dX9_says_121 : decode cX9_says 121 = .ok (.iaload, 1) := by decide +kernel
theorem dX9_says_122 : decode cX9_says 122 = .ok (.ireturn, 1) := by decide +kernel
theorem dX9_says_123 : decode cX9_says 123 = .ok (.aload_n 0, 1) := by decide +kernel
theorem dX9_says_124 : decode cX9_says 124 = .ok (.getfield 19, 3) := by decide +kernel
theorem dX9_says_127 : decode cX9_says 127 = .ok (.iload_n 3, 1) := by decide +kernel
theorem dX9_says_128 : decode cX9_says 128 = .ok (.iaload, 1) := by decide +kernel
theorem dX9_says_129 : decode cX9_says 129 = .ok (.ireturn, 1) := by decide +kernel
theorem dX9_says_130 : decode cX9_says 130 = .ok (.aload_n 0, 1) := by decide +kernel
theorem dX9_says_131 : decode cX9_says 131 = .ok (.getfield 16, 3) := by decide +kernel
theorem dX9_says_134 : decode cX9_says 134 = .ok (.iload_n 3, 1) := by decide +kernel
theorem dX9_says_135 : decode cX9_says 135 = .ok (.iaload, 1) := by decide +kernel
theorem dX9_says_136 : decode cX9_says 136 = .ok (.ireturn, 1) := by decide +kernel
theorem dX9_says_137 : decode cX9_says 137 = .ok (.aload_n 0, 1) := by decide +kernel
theorem dX9_says_138 : decode cX9_says 138 = .ok (.iload_n 3, 1) := by decide +kernel
theorem dX9_says_139 : decode cX9_says 139 = .ok (.invokevirtual 107, 3) := by decide +kernel
theorem dX9_says_142 : decode cX9_says 142 = .ok (.ireturn, 1) := by decide +kernel
theorem dX9_newOne_0 : decode cX9_newOne 0 = .ok (.aload_n 0, 1) := by decide +kernel
theorem dX9_newOne_1 : decode cX9_newOne 1 = .ok (.getfield 7, 3) := by decide +kernel
theorem dX9_newOne_4 : decode cX9_newOne 4 = .ok (.aload_n 0, 1) := by decide +kernel
theorem dX9_newOne_5 : decode cX9_newOne 5 = .ok (.getfield 83, 3) := by decide +kernel
theorem dX9_newOne_8 : decode cX9_newOne 8 = .ok (.iload_n 1, 1) := by decide +kernel
theorem dX9_newOne_9 : decode cX9_newOne 9 = .ok (.iastore, 1) := by decide +kernel
theorem dX9_newOne_10 : decode cX9_newOne 10 = .ok (.aload_n 0, 1) := by decide +kernel
theorem dX9_newOne_11 : decode cX9_newOne 11 = .ok (.getfield 13, 3) := by decide +kernel
theorem dX9_newOne_14 : decode cX9_newOne 14 = .ok (.aload_n 0, 1) := by decide +kernel
theorem dX9_newOne_15 : decode cX9_newOne 15 = .ok (.getfield 83, 3) := by decide +kernel
theorem dX9_newOne_18 : decode cX9_newOne 18 = .ok (.iload_n 2, 1) := by decide +kernel
theorem dX9_newOne_19 : decode cX9_newOne 19 = .ok (.iastore, 1) := by decide +kernel
theorem dX9_newOne_20 : decode cX9_newOne 20 = .ok (.aload_n 0, 1) := by decide +kernel
theorem dX9_newOne_21 : decode cX9_newOne 21 = .ok (.getfield 16, 3) := by decide +kernel
theorem dX9_newOne_24 : decode cX9_newOne 24 = .ok (.aload_n 0, 1) := by decide +kernel
theorem dX9_newOne_25 : decode cX9_newOne 25 = .ok (.getfield 83, 3) := by decide +kernel
theorem dX9_newOne_28 : decode cX9_newOne 28 = .ok (.iload_n 3, 1) := by decide +kernel
theorem dX9_newOne_29 : decode cX9_newOne 29 = .ok (.iastore, 1) := by decide +kernel
theorem dX9_newOne_30 : decode cX9_newOne 30 = .ok (.aload_n 0, 1) := by decide +kernel
theorem dX9_newOne_31 : decode cX9_newOne 31 = .ok (.getfield 19, 3) := by decide +kernel
theorem dX9_newOne_34 : decode cX9_newOne 34 = .ok (.aload_n 0, 1) := by decide +kernel
theorem dX9_newOne_35 : decode cX9_newOne 35 = .ok (.getfield 83, 3) := by decide +kernel
theorem dX9_newOne_38 : decode cX9_newOne 38 = .ok (.iload 4, 2) := by decide +kernel
theorem dX9_newOne_40 : decode cX9_newOne 40 = .ok (.iastore, 1) := by decide +kernel
theorem dX9_newOne_41 : decode cX9_newOne 41 = .ok (.aload_n 0, 1) := by decide +kernel
theorem dX9_newOne_42 : decode cX9_newOne 42 = .ok (.getfield 22, 3) := by decide +kernel
theorem dX9_newOne_45 : decode cX9_newOne 45 = .ok (.aload_n 0, 1) := by decide +kernel
theorem dX9_newOne_46 : decode cX9_newOne 46 = .ok (.getfield 83, 3) := by decide +kernel
theorem dX9_newOne_49 : decode cX9_newOne 49 = .ok (.iload 5, 2) := by decide +kernel
theorem dX9_newOne_51 : decode cX9_newOne 51 = .ok (.iastore, 1) := by decide +kernel
theorem dX9_newOne_52 : decode cX9_newOne 52 = .ok (.aload_n 0, 1) := by decide +kernel
theorem dX9_newOne_53 : decode cX9_newOne 53 = .ok (.getfield 25, 3) := by decide +kernel
theorem dX9_newOne_56 : decode cX9_newOne 56 = .ok (.aload_n 0, 1) := by decide +kernel
theorem dX9_newOne_57 : decode cX9_newOne 57 = .ok (.getfield 83, 3) := by decide +kernel
theorem dX9_newOne_60 : decode cX9_newOne 60 = .ok (.iconst 0, 1) := by decide +kernel
theorem dX9_newOne_61 : decode cX9_newOne 61 = .ok (.iastore, 1) := by decide +kernel
theorem dX9_newOne_62 : decode cX9_newOne 62 = .ok (.aload_n 0, 1) := by decide +kernel
theorem dX9_newOne_63 : decode cX9_newOne 63 = .ok (.dup, 1) := by decide +kernel
theorem dX9_newOne_64 : decode cX9_newOne 64 = .ok (.getfield 83, 3) := by decide +kernel
theorem dX9_newOne_67 : decode cX9_newOne 67 = .ok (.dup_x1, 1) := by decide +kernel
theorem dX9_newOne_68 : decode cX9_newOne 68 = .ok (.iconst 1, 1) := by decide +kernel
theorem dX9_newOne_69 : decode cX9_newOne 69 = .ok (.iadd, 1) := by decide +kernel
theorem dX9_newOne_70 : decode cX9_newOne 70 = .ok (.putfield 83, 3) := by decide +kernel
theorem dX9_newOne_73 : decode cX9_newOne 73 = .ok (.ireturn, 1) := by decide +kernel
theorem dX9_isOpen_0 : decode cX9_isOpen 0 = .ok (.iload_n 1, 1) := by decide +kernel
theorem dX9_isOpen_1 : decode cX9_isOpen 1 = .ok (.invokestatic 110, 3) := by decide +kernel
theorem dX9_isOpen_4 : decode cX9_isOpen 4 = .ok (.ifCond .eq 16, 3) := by decide +kernel
theorem dX9_isOpen_7 : decode cX9_isOpen 7 = .ok (.aload_n 0, 1) := by decide +kernel
theorem dX9_isOpen_8 : decode cX9_isOpen 8 = .ok (.getfield 28, 3) := by decide +kernel
theorem dX9_isOpen_11 : decode cX9_isOpen 11 = .ok (.iload_n 1, 1) := by decide +kernel
theorem dX9_isOpen_12 : decode cX9_isOpen 12 = .ok (.baload, 1) := by decide +kernel
theorem dX9_isOpen_13 : decode cX9_isOpen 13 = .ok (.ifCond .ne 7, 3) := by decide +kernel
theorem dX9_isOpen_16 : decode cX9_isOpen 16 = .ok (.iconst 1, 1) := by decide +kernel
theorem dX9_isOpen_17 : decode cX9_isOpen 17 = .ok (.goto 4, 3) := by decide +kernel
theorem dX9_isOpen_20 : decode cX9_isOpen 20 = .ok (.iconst 0, 1) := by decide +kernel
theorem dX9_isOpen_21 : decode cX9_isOpen 21 = .ok (.ireturn, 1) := by decide +kernel
theorem dX9_thoseAt_0 : decode cX9_thoseAt 0 = .ok (.iconst 0, 1) := by decide +kernel
theorem dX9_thoseAt_1 : decode cX9_thoseAt 1 = .ok (.istore_n 2, 1) := by decide +kernel
theorem dX9_thoseAt_2 : decode cX9_thoseAt 2 = .ok (.iconst 0, 1) := by decide +kernel
theorem dX9_thoseAt_3 : decode cX9_thoseAt 3 = .ok (.istore_n 3, 1) := by decide +kernel
theorem dX9_thoseAt_4 : decode cX9_thoseAt 4 = .ok (.iload_n 3, 1) := by decide +kernel
theorem dX9_thoseAt_5 : decode cX9_thoseAt 5 = .ok (.aload_n 0, 1) := by decide +kernel
theorem dX9_thoseAt_6 : decode cX9_thoseAt 6 = .ok (.getfield 83, 3) := by decide +kernel
theorem dX9_thoseAt_9 : decode cX9_thoseAt 9 = .ok (.if_icmp .ge 25, 3) := by decide +kernel
theorem dX9_thoseAt_12 : decode cX9_thoseAt 12 = .ok (.aload_n 0, 1) := by decide +kernel
theorem dX9_thoseAt_13 : decode cX9_thoseAt 13 = .ok (.getfield 22, 3) := by decide +kernel
theorem dX9_thoseAt_16 : decode cX9_thoseAt 16 = .ok (.iload_n 3, 1) := by decide +kernel
theorem dX9_thoseAt_17 : decode cX9_thoseAt 17 = .ok (.iaload, 1) := by decide +kernel
theorem dX9_thoseAt_18 : decode cX9_thoseAt 18 = .ok (.iload_n 1, 1) := by decide +kernel
theorem dX9_thoseAt_19 : decode cX9_thoseAt 19 = .ok (.if_icmp .ne 9, 3) := by decide +kernel
theorem dX9_thoseAt_22 : decode cX9_thoseAt 22 = .ok (.iload_n 2, 1) := by decide +kernel
theorem dX9_thoseAt_23 : decode cX9_thoseAt 23 = .ok (.iconst 1, 1) := by decide +kernel
theorem dX9_thoseAt_24 : decode cX9_thoseAt 24 = .ok (.iload_n 3, 1) := by decide +kernel
theorem dX9_thoseAt_25 : decode cX9_thoseAt 25 = .ok (.ishl, 1) := by decide +kernel
theorem dX9_thoseAt_26 : decode cX9_thoseAt 26 = .ok (.ior, 1) := by decide +kernel
theorem dX9_thoseAt_27 : decode cX9_thoseAt 27 = .ok (.istore_n 2, 1) := by decide +kernel
theorem dX9_thoseAt_28 : decode cX9_thoseAt 28 = .ok (.iinc 3 1, 3) := by decide +kernel
theorem dX9_thoseAt_31 : decode cX9_thoseAt 31 = .ok (.goto (-27), 3) := by decide +kernel
theorem dX9_thoseAt_34 : decode cX9_thoseAt 34 = .ok (.iload_n 2, 1) := by decide +kernel
theorem dX9_thoseAt_35 : decode cX9_thoseAt 35 = .ok (.ireturn, 1) := by decide +kernel
theorem dX9_isFree_0 : decode cX9_isFree 0 = .ok (.iload_n 1, 1) := by decide +kernel
theorem dX9_isFree_1 : decode cX9_isFree 1 = .ok (.invokestatic 110, 3) := by decide +kernel
theorem dX9_isFree_4 : decode cX9_isFree 4 = .ok (.ifCond .eq 21, 3) := by decide +kernel
theorem dX9_isFree_7 : decode cX9_isFree 7 = .ok (.iload_n 1, 1) := by decide +kernel
theorem dX9_isFree_8 : decode cX9_isFree 8 = .ok (.bipush 24, 2) := by decide +kernel
theorem dX9_isFree_10 : decode cX9_isFree 10 = .ok (.if_icmp .eq 15, 3) := by decide +kernel
theorem dX9_isFree_13 : decode cX9_isFree 13 = .ok (.aload_n 0, 1) := by decide +kernel
theorem dX9_isFree_14 : decode cX9_isFree 14 = .ok (.iload_n 1, 1) := by decide +kernel
theorem dX9_isFree_15 : decode cX9_isFree 15 = .ok (.invokevirtual 113, 3) := by decide +kernel
theorem dX9_isFree_18 : decode cX9_isFree 18 = .ok (.ifCond .ne 7, 3) := by decide +kernel
theorem dX9_isFree_21 : decode cX9_isFree 21 = .ok (.iconst 1, 1) := by decide +kernel
theorem dX9_isFree_22 : decode cX9_isFree 22 = .ok (.goto 4, 3) := by decide +kernel
theorem dX9_isFree_25 : decode cX9_isFree 25 = .ok (.iconst 0, 1) := by decide +kernel
theorem dX9_isFree_26 : decode cX9_isFree 26 = .ok (.ireturn, 1) := by decide +kernel
theorem dX9_person_0 : decode cX9_person 0 = .ok (.iload_n 1, 1) := by decide +kernel
theorem dX9_person_1 : decode cX9_person 1 = .ok (.iconst 0, 1) := by decide +kernel
theorem dX9_person_2 : decode cX9_person 2 = .ok (.bipush 6, 2) := by decide +kernel
theorem dX9_person_4 : decode cX9_person 4 = .ok (.invokestatic 86, 3) := by decide +kernel
theorem dX9_person_7 : decode cX9_person 7 = .ok (.ifCond .ne 9, 3) := by decide +kernel
theorem dX9_person_10 : decode cX9_person 10 = .ok (.aload_n 0, 1) := by decide +kernel
theorem dX9_person_11 : decode cX9_person 11 = .ok (.iconst (-1), 1) := by decide +kernel
theorem dX9_person_12 : decode cX9_person 12 = .ok (.invokevirtual 79, 3) := by decide +kernel
theorem dX9_person_15 : decode cX9_person 15 = .ok (.ireturn, 1) := by decide +kernel
theorem dX9_person_16 : decode cX9_person 16 = .ok (.iload_n 2, 1) := by decide +kernel
theorem dX9_person_17 : decode cX9_person 17 = .ok (.iconst 0, 1) := by decide +kernel
theorem dX9_person_18 : decode cX9_person 18 = .ok (.bipush 9, 2) := by decide +kernel
theorem dX9_person_20 : decode cX9_person 20 = .ok (.invokestatic 86, 3) := by decide +kernel
theorem dX9_person_23 : decode cX9_person 23 = .ok (.ifCond .eq 32, 3) := by decide +kernel
theorem dX9_person_26 : decode cX9_person 26 = .ok (.iload_n 3, 1) := by decide +kernel
theorem dX9_person_27 : decode cX9_person 27 = .ok (.iconst 0, 1) := by decide +kernel
theorem dX9_person_28 : decode cX9_person 28 = .ok (.bipush 20, 2) := by decide +kernel
theorem dX9_person_30 : decode cX9_person 30 = .ok (.invokestatic 86, 3) := by decide +kernel
theorem dX9_person_33 : decode cX9_person 33 = .ok (.ifCond .eq 22, 3) := by decide +kernel
theorem dX9_person_36 : decode cX9_person 36 = .ok (.iload 4, 2) := by decide +kernel
theorem dX9_person_38 : decode cX9_person 38 = .ok (.iconst 1, 1) := by decide +kernel
theorem dX9_person_39 : decode cX9_person 39 = .ok (.iconst 4, 1) := by decide +kernel
theorem dX9_person_40 : decode cX9_person 40 = .ok (.invokestatic 86, 3) := by decide +kernel
theorem dX9_person_43 : decode cX9_person 43 = .ok (.ifCond .eq 12, 3) := by decide +kernel
theorem dX9_person_46 : decode cX9_person 46 = .ok (.aload_n 0, 1) := by decide +kernel
theorem dX9_person_47 : decode cX9_person 47 = .ok (.iload 5, 2) := by decide +kernel
theorem dX9_person_49 : decode cX9_person 49 = .ok (.invokevirtual 116, 3) := by decide +kernel
theorem dX9_person_52 : decode cX9_person 52 = .ok (.ifCond .ne 10, 3) := by decide +kernel
theorem dX9_person_55 : decode cX9_person 55 = .ok (.aload_n 0, 1) := by decide +kernel
theorem dX9_person_56 : decode cX9_person 56 = .ok (.bipush (-6), 2) := by decide +kernel
theorem dX9_person_58 : decode cX9_person 58 = .ok (.invokevirtual 79, 3) := by decide +kernel
theorem dX9_person_61 : decode cX9_person 61 = .ok (.ireturn, 1) := by decide +kernel
theorem dX9_person_62 : decode cX9_person 62 = .ok (.aload_n 0, 1) := by decide +kernel
theorem dX9_person_63 : decode cX9_person 63 = .ok (.getfield 83, 3) := by decide +kernel
theorem dX9_person_66 : decode cX9_person 66 = .ok (.bipush 7, 2) := by decide +kernel
theorem dX9_person_68 : decode cX9_person 68 = .ok (.if_icmp .ne 12, 3) := by decide +kernel
theorem dX9_person_71 : decode cX9_person 71 = .ok (.aload_n 0, 1) := by decide +kernel
theorem dX9_person_72 : decode cX9_person 72 = .ok (.bipush (-7), 2) := by decide +kernel
theorem dX9_person_74 : decode cX9_person 74 = .ok (.invokevirtual 79, 3) := by decide +kernel
theorem dX9_person_77 : decode cX9_person 77 = .ok (.goto 14, 3) := by decide +kernel
theorem dX9_person_80 : decode cX9_person 80 = .ok (.aload_n 0, 1) := by decide +kernel
theorem dX9_person_81 : decode cX9_person 81 = .ok (.iload_n 1, 1) := by decide +kernel
theorem dX9_person_82 : decode cX9_person 82 = .ok (.iload_n 2, 1) := by decide +kernel
theorem dX9_person_83 : decode cX9_person 83 = .ok (.iload_n 3, 1) := by decide +kernel
theorem dX9_person_84 : decode cX9_person 84 = .ok (.iload 4, 2) := by decide +kernel
theorem dX9_person_86 : decode cX9_person 86 = .ok (.iload 5, 2) := by decide +kernel
theorem dX9_person_88 : decode cX9_person 88 = .ok (.invokevirtual 119, 3) := by decide +kernel
theorem dX9_person_91 : decode cX9_person 91 = .ok (.ireturn, 1) := by decide +kernel
theorem dX9_fenced_0 : decode cX9_fenced 0 = .ok (.aload_n 0, 1) := by decide +kernel
theorem dX9_fenced_1 : decode cX9_fenced 1 = .ok (.getfield 28, 3) := by decide +kernel
theorem dX9_fenced_4 : decode cX9_fenced 4 = .ok (.iload_n 1, 1) := by decide +kernel
theorem dX9_fenced_5 : decode cX9_fenced 5 = .ok (.iload_n 2, 1) := by decide +kernel
theorem dX9_fenced_6 : decode cX9_fenced 6 = .ok (.bastore, 1) := by decide +kernel
theorem dX9_fenced_7 : decode cX9_fenced 7 = .ok (.aload_n 0, 1) := by decide +kernel
theorem dX9_fenced_8 : decode cX9_fenced 8 = .ok (.iconst 0, 1) := by decide +kernel
theorem dX9_fenced_9 : decode cX9_fenced 9 = .ok (.putfield 123, 3) := by decide +kernel
theorem dX9_fenced_12 : decode cX9_fenced 12 = .ok (.return_, 1) := by decide +kernel
theorem dX9_fence_0 : decode cX9_fence 0 = .ok (.aload_n 0, 1) := by decide +kernel
theorem dX9_fence_1 : decode cX9_fence 1 = .ok (.iload_n 1, 1) := by decide +kernel
theorem dX9_fence_2 : decode cX9_fence 2 = .ok (.invokevirtual 127, 3) := by decide +kernel
theorem dX9_fence_5 : decode cX9_fence 5 = .ok (.ifCond .ne 10, 3) := by decide +kernel
theorem dX9_fence_8 : decode cX9_fence 8 = .ok (.aload_n 0, 1) := by decide +kernel
theorem dX9_fence_9 : decode cX9_fence 9 = .ok (.bipush (-6), 2) := by decide +kernel
theorem dX9_fence_11 : decode cX9_fence 11 = .ok (.invokevirtual 79, 3) := by decide +kernel
theorem dX9_fence_14 : decode cX9_fence 14 = .ok (.ireturn, 1) := by decide +kernel
theorem dX9_fence_15 : decode cX9_fence 15 = .ok (.aload_n 0, 1) := by decide +kernel
theorem dX9_fence_16 : decode cX9_fence 16 = .ok (.getfield 28, 3) := by decide +kernel
theorem dX9_fence_19 : decode cX9_fence 19 = .ok (.iload_n 1, 1) := by decide +kernel
theorem dX9_fence_20 : decode cX9_fence 20 = .ok (.baload, 1) := by decide +kernel
theorem dX9_fence_21 : decode cX9_fence 21 = .ok (.ifCond .eq 7, 3) := by decide +kernel
theorem dX9_fence_24 : decode cX9_fence 24 = .ok (.iconst 1, 1) := by decide +kernel
theorem dX9_fence_25 : decode cX9_fence 25 = .ok (.goto 4, 3) := by decide +kernel
theorem dX9_fence_28 : decode cX9_fence 28 = .ok (.iconst 0, 1) := by decide +kernel
theorem dX9_fence_29 : decode cX9_fence 29 = .ok (.istore_n 3, 1) := by decide +kernel
theorem dX9_fence_30 : decode cX9_fence 30 = .ok (.aload_n 0, 1) := by decide +kernel
theorem dX9_fence_31 : decode cX9_fence 31 = .ok (.iload_n 1, 1) := by decide +kernel
theorem dX9_fence_32 : decode cX9_fence 32 = .ok (.iload_n 2, 1) := by decide +kernel
theorem dX9_fence_33 : decode cX9_fence 33 = .ok (.invokevirtual 130, 3) := by decide +kernel
theorem dX9_fence_36 : decode cX9_fence 36 = .ok (.iload_n 3, 1) := by decide +kernel
theorem dX9_fence_37 : decode cX9_fence 37 = .ok (.ireturn, 1) := by decide +kernel
theorem dX9_tell_0 : decode cX9_tell 0 = .ok (.aload_n 0, 1) := by decide +kernel
theorem dX9_tell_1 : decode cX9_tell 1 = .ok (.iload_n 1, 1) := by decide +kernel
theorem dX9_tell_2 : decode cX9_tell 2 = .ok (.invokevirtual 97, 3) := by decide +kernel
theorem dX9_tell_5 : decode cX9_tell 5 = .ok (.ifCond .ne 9, 3) := by decide +kernel
theorem dX9_tell_8 : decode cX9_tell 8 = .ok (.aload_n 0, 1) := by decide +kernel
theorem dX9_tell_9 : decode cX9_tell 9 = .ok (.iconst (-1), 1) := by decide +kernel
theorem dX9_tell_10 : decode cX9_tell 10 = .ok (.invokevirtual 79, 3) := by decide +kernel
theorem dX9_tell_13 : decode cX9_tell 13 = .ok (.ireturn, 1) := by decide +kernel
theorem dX9_tell_14 : decode cX9_tell 14 = .ok (.iload_n 2, 1) := by decide +kernel
theorem dX9_tell_15 : decode cX9_tell 15 = .ok (.iconst 0, 1) := by decide +kernel
theorem dX9_tell_16 : decode cX9_tell 16 = .ok (.iconst 2, 1) := by decide +kernel
theorem dX9_tell_17 : decode cX9_tell 17 = .ok (.invokestatic 86, 3) := by decide +kernel
theorem dX9_tell_20 : decode cX9_tell 20 = .ok (.ifCond .eq 45, 3) := by decide +kernel
theorem dX9_tell_23 : decode cX9_tell 23 = .ok (.iload_n 2, 1) := by decide +kernel
theorem dX9_tell_24 : decode cX9_tell 24 = .ok (.ifCond .ne 16, 3) := by decide +kernel
theorem dX9_tell_27 : decode cX9_tell 27 = .ok (.iload_n 3, 1) := by decide +kernel
theorem dX9_tell_28 : decode cX9_tell 28 = .ok (.iconst 0, 1) := by decide +kernel
theorem dX9_tell_29 : decode cX9_tell 29 = .ok (.bipush 20, 2) := by decide +kernel
theorem dX9_tell_31 : decode cX9_tell 31 = .ok (.invokestatic 86, 3) := by decide +kernel
theorem dX9_tell_34 : decode cX9_tell 34 = .ok (.ifCond .eq 31, 3) := by decide +kernel
theorem dX9_tell_37 : decode cX9_tell 37 = .ok (.goto 35, 3) := by decide +kernel
theorem dX9_tell_40 : decode cX9_tell 40 = .ok (.iload_n 2, 1) := by decide +kernel
theorem dX9_tell_41 : decode cX9_tell 41 = .ok (.iconst 1, 1) := by decide +kernel
theorem dX9_tell_42 : decode cX9_tell 42 = .ok (.if_icmp .ne 15, 3) := by decide +kernel
theorem dX9_tell_45 : decode cX9_tell 45 = .ok (.iload_n 3, 1) := by decide +kernel
theorem dX9_tell_46 : decode cX9_tell 46 = .ok (.iconst 1, 1) := by decide +kernel
theorem dX9_tell_47 : decode cX9_tell 47 = .ok (.iconst 4, 1) := by decide +kernel
theorem dX9_tell_48 : decode cX9_tell 48 = .ok (.invokestatic 86, 3) := by decide +kernel
theorem dX9_tell_51 : decode cX9_tell 51 = .ok (.ifCond .eq 14, 3) := by decide +kernel
theorem dX9_tell_54 : decode cX9_tell 54 = .ok (.goto 18, 3) := by decide +kernel
theorem dX9_tell_57 : decode cX9_tell 57 = .ok (.aload_n 0, 1) := by decide +kernel
theorem dX9_tell_58 : decode cX9_tell 58 = .ok (.iload_n 3, 1) := by decide +kernel
theorem dX9_tell_59 : decode cX9_tell 59 = .ok (.invokevirtual 116, 3) := by decide +kernel
theorem dX9_tell_62 : decode cX9_tell 62 = .ok (.ifCond .ne 10, 3) := by decide +kernel
theorem dX9_tell_65 : decode cX9_tell 65 = .ok (.aload_n 0, 1) := by decide +kernel
theorem dX9_tell_66 : decode cX9_tell 66 = .ok (.bipush (-6), 2) := by decide +kernel
theorem dX9_tell_68 : decode cX9_tell 68 = .ok (.invokevirtual 79, 3) := by decide +kernel
theorem dX9_tell_71 : decode cX9_tell 71 = .ok (.ireturn, 1) := by decide +kernel
theorem dX9_tell_72 : decode cX9_tell 72 = .ok (.iload_n 2, 1) := by decide +kernel
theorem dX9_tell_73 : decode cX9_tell 73 = .ok (.ifCond .ne 12, 3) := by decide +kernel
theorem dX9_tell_76 : decode cX9_tell 76 = .ok (.aload_n 0, 1) := by decide +kernel
theorem dX9_tell_77 : decode cX9_tell 77 = .ok (.getfield 16, 3) := by decide +kernel
theorem dX9_tell_80 : decode cX9_tell 80 = .ok (.iload_n 1, 1) := by decide +kernel
theorem dX9_tell_81 : decode cX9_tell 81 = .ok (.iaload, 1) := by decide +kernel
theorem dX9_tell_82 : decode cX9_tell 82 = .ok (.goto 23, 3) := by decide +kernel
theorem dX9_tell_85 : decode cX9_tell 85 = .ok (.iload_n 2, 1) := by decide +kernel
theorem dX9_tell_86 : decode cX9_tell 86 = .ok (.iconst 1, 1) := by decide +kernel
theorem dX9_tell_87 : decode cX9_tell 87 = .ok (.if_icmp .ne 12, 3) := by decide +kernel
theorem dX9_tell_90 : decode cX9_tell 90 = .ok (.aload_n 0, 1) := by decide +kernel
theorem dX9_tell_91 : decode cX9_tell 91 = .ok (.getfield 19, 3) := by decide +kernel
theorem dX9_tell_94 : decode cX9_tell 94 = .ok (.iload_n 1, 1) := by decide +kernel
theorem dX9_tell_95 : decode cX9_tell 95 = .ok (.iaload, 1) := by decide +kernel
theorem dX9_tell_96 : decode cX9_tell 96 = .ok (.goto 9, 3) := by decide +kernel
theorem dX9_tell_99 : decode cX9_tell 99 = .ok (.aload_n 0, 1) := by decide +kernel
theorem dX9_tell_100 : decode cX9_tell 100 = .ok (.getfield 22, 3) := by decide +kernel
theorem dX9_tell_103 : decode cX9_tell 103 = .ok (.iload_n 1, 1) := by decide +kernel
theorem dX9_tell_104 : decode cX9_tell 104 = .ok (.iaload, 1) := by decide +kernel
theorem dX9_tell_105 : decode cX9_tell 105 = .ok (.istore 4, 2) := by decide +kernel
theorem dX9_tell_107 : decode cX9_tell 107 = .ok (.iload_n 2, 1) := by decide +kernel
theorem dX9_tell_108 : decode cX9_tell 108 = .ok (.ifCond .ne 13, 3) := by decide +kernel
theorem dX9_tell_111 : decode cX9_tell 111 = .ok (.aload_n 0, 1) := by decide +kernel
theorem dX9_tell_112 : decode cX9_tell 112 = .ok (.getfield 16, 3) := by decide +kernel
theorem dX9_tell_115 : decode cX9_tell 115 = .ok (.iload_n 1, 1) := by decide +kernel
theorem dX9_tell_116 : decode cX9_tell 116 = .ok (.iload_n 3, 1) := by decide +kernel
theorem dX9_tell_117 : decode cX9_tell 117 = .ok (.iastore, 1) := by decide +kernel
theorem dX9_tell_118 : decode cX9_tell 118 = .ok (.goto 25, 3) := by decide +kernel
theorem dX9_tell_121 : decode cX9_tell 121 = .ok (.iload_n 2, 1) := by decide +kernel
theorem dX9_tell_122 : decode cX9_tell 122 = .ok (.iconst 1, 1) := by decide +kernel
theorem dX9_tell_123 : decode cX9_tell 123 = .ok (.if_icmp .ne 13, 3) := by decide +kernel
theorem dX9_tell_126 : decode cX9_tell 126 = .ok (.aload_n 0, 1) := by decide +kernel
theorem dX9_tell_127 : decode cX9_tell 127 = .ok (.getfield 19, 3) := by decide +kernel
theorem dX9_tell_130 : decode cX9_tell 130 = .ok (.iload_n 1, 1) := by decide +kernel
theorem dX9_tell_131 : decode cX9_tell 131 = .ok (.iload_n 3, 1) := by decide +kernel
theorem dX9_tell_132 : decode cX9_tell 132 = .ok (.iastore, 1) := by decide +kernel
theorem dX9_tell_133 : decode cX9_tell 133 = .ok (.goto 10, 3) := by decide +kernel
theorem dX9_tell_136 : decode cX9_tell 136 = .ok (.aload_n 0, 1) := by decide +kernel
theorem dX9_tell_137 : decode cX9_tell 137 = .ok (.getfield 22, 3) := by decide +kernel
theorem dX9_tell_140 : decode cX9_tell 140 = .ok (.iload_n 1, 1) := by decide +kernel
theorem dX9_tell_141 : decode cX9_tell 141 = .ok (.iload_n 3, 1) := by decide +kernel
theorem dX9_tell_142 : decode cX9_tell 142 = .ok (.iastore, 1) := by decide +kernel
theorem dX9_tell_143 : decode cX9_tell 143 = .ok (.iload 4, 2) := by decide +kernel
theorem dX9_tell_145 : decode cX9_tell 145 = .ok (.ireturn, 1) := by decide +kernel
theorem dX9_ask_0 : decode cX9_ask 0 = .ok (.iload_n 1, 1) := by decide +kernel
theorem dX9_ask_1 : decode cX9_ask 1 = .ok (.iconst 0, 1) := by decide +kernel
theorem dX9_ask_2 : decode cX9_ask 2 = .ok (.iconst 1, 1) := by decide +kernel
theorem dX9_ask_3 : decode cX9_ask 3 = .ok (.invokestatic 86, 3) := by decide +kernel
theorem dX9_ask_6 : decode cX9_ask 6 = .ok (.ifCond .eq 29, 3) := by decide +kernel
theorem dX9_ask_9 : decode cX9_ask 9 = .ok (.iload_n 1, 1) := by decide +kernel
theorem dX9_ask_10 : decode cX9_ask 10 = .ok (.ifCond .ne 15, 3) := by decide +kernel
theorem dX9_ask_13 : decode cX9_ask 13 = .ok (.iload_n 2, 1) := by decide +kernel
theorem dX9_ask_14 : decode cX9_ask 14 = .ok (.iconst 1, 1) := by decide +kernel
theorem dX9_ask_15 : decode cX9_ask 15 = .ok (.iconst 4, 1) := by decide +kernel
theorem dX9_ask_16 : decode cX9_ask 16 = .ok (.invokestatic 86, 3) := by decide +kernel
theorem dX9_ask_19 : decode cX9_ask 19 = .ok (.ifCond .eq 16, 3) := by decide +kernel
theorem dX9_ask_22 : decode cX9_ask 22 = .ok (.goto 20, 3) := by decide +kernel
theorem dX9_ask_25 : decode cX9_ask 25 = .ok (.iload_n 2, 1) := by decide +kernel
theorem dX9_ask_26 : decode cX9_ask 26 = .ok (.iconst 0, 1) := by decide +kernel
theorem dX9_ask_27 : decode cX9_ask 27 = .ok (.bipush 40, 2) := by decide +kernel
theorem dX9_ask_29 : decode cX9_ask 29 = .ok (.invokestatic 86, 3) := by decide +kernel
theorem dX9_ask_32 : decode cX9_ask 32 = .ok (.ifCond .ne 10, 3) := by decide +kernel
theorem dX9_ask_35 : decode cX9_ask 35 = .ok (.aload_n 0, 1) := by decide +kernel
theorem dX9_ask_36 : decode cX9_ask 36 = .ok (.bipush (-6), 2) := by decide +kernel
theorem dX9_ask_38 : decode cX9_ask 38 = .ok (.invokevirtual 79, 3) := by decide +kernel
theorem dX9_ask_41 : decode cX9_ask 41 = .ok (.ireturn, 1) := by decide +kernel
theorem dX9_ask_42 : decode cX9_ask 42 = .ok (.aload_n 0, 1) := by decide +kernel
theorem dX9_ask_43 : decode cX9_ask 43 = .ok (.getfield 32, 3) := by decide +kernel
theorem dX9_ask_46 : decode cX9_ask 46 = .ok (.iload_n 1, 1) := by decide +kernel
theorem dX9_ask_47 : decode cX9_ask 47 = .ok (.iaload, 1) := by decide +kernel
theorem dX9_ask_48 : decode cX9_ask 48 = .ok (.istore_n 3, 1) := by decide +kernel
theorem dX9_ask_49 : decode cX9_ask 49 = .ok (.aload_n 0, 1) := by decide +kernel
theorem dX9_ask_50 : decode cX9_ask 50 = .ok (.getfield 32, 3) := by decide +kernel
theorem dX9_ask_53 : decode cX9_ask 53 = .ok (.iload_n 1, 1) := by decide +kernel
theorem dX9_ask_54 : decode cX9_ask 54 = .ok (.iload_n 2, 1) := by decide +kernel
theorem dX9_ask_55 : decode cX9_ask 55 = .ok (.iastore, 1) := by decide +kernel
theorem dX9_ask_56 : decode cX9_ask 56 = .ok (.iload_n 3, 1) := by decide +kernel
theorem dX9_ask_57 : decode cX9_ask 57 = .ok (.ireturn, 1) := by decide +kernel
theorem dX9_personOf_0 : decode cX9_personOf 0 = .ok (.aload_n 0, 1) := by decide +kernel
theorem dX9_personOf_1 : decode cX9_personOf 1 = .ok (.iload_n 1, 1) := by decide +kernel
theorem dX9_personOf_2 : decode cX9_personOf 2 = .ok (.invokevirtual 97, 3) := by decide +kernel
theorem dX9_personOf_5 : decode cX9_personOf 5 = .ok (.ifCond .ne 10, 3) := by decide +kernel
theorem dX9_personOf_8 : decode cX9_personOf 8 = .ok (.aload_n 0, 1) := by decide +kernel
theorem dX9_personOf_9 : decode cX9_personOf 9 = .ok (.bipush (-5), 2) := by decide +kernel
theorem dX9_personOf_11 : decode cX9_personOf 11 = .ok (.invokevirtual 79, 3) := by decide +kernel
theorem dX9_personOf_14 : decode cX9_personOf 14 = .ok (.ireturn, 1) := by decide +kernel
theorem dX9_personOf_15 : decode cX9_personOf 15 = .ok (.iload_n 2, 1) := by decide +kernel
theorem dX9_personOf_16 : decode cX9_personOf 16 = .ok (.tableswitch 128 0 8 #[52, 59, 66, 73, 80, 87, 94, 100, 114], 52) := by decide +kernel
theorem dX9_personOf_68 : decode cX9_personOf 68 = .ok (.aload_n 0, 1) := by decide +kernel
theorem dX9_personOf_69 : decode cX9_personOf 69 = .ok (.getfield 7, 3) := by decide +kernel
theorem dX9_personOf_72 : decode cX9_personOf 72 = .ok (.iload_n 1, 1) := by decide +kernel
theorem dX9_personOf_73 : decode cX9_personOf 73 = .ok (.iaload, 1) := by decide +kernel
theorem dX9_personOf_74 : decode cX9_personOf 74 = .ok (.ireturn, 1) := by decide +kernel
theorem dX9_personOf_75 : decode cX9_personOf 75 = .ok (.aload_n 0, 1) := by decide +kernel
theorem dX9_personOf_76 : decode cX9_personOf 76 = .ok (.getfield 13, 3) := by decide +kernel
theorem dX9_personOf_79 : decode cX9_personOf 79 = .ok (.iload_n 1, 1) := by decide +kernel
theorem dX9_personOf_80 : decode cX9_personOf 80 = .ok (.iaload, 1) := by decide +kernel
theorem dX9_personOf_81 : decode cX9_personOf 81 = .ok (.ireturn, 1) := by decide +kernel
theorem dX9_personOf_82 : decode cX9_personOf 82 = .ok (.aload_n 0, 1) := by decide +kernel
theorem dX9_personOf_83 : decode cX9_personOf 83 = .ok (.getfield 16, 3) := by decide +kernel
theorem dX9_personOf_86 : decode cX9_personOf 86 = .ok (.iload_n 1, 1) := by decide +kernel
theorem dX9_personOf_87 : decode cX9_personOf 87 = .ok (.iaload, 1) := by decide +kernel
theorem dX9_personOf_88 : decode cX9_personOf 88 = .ok (.ireturn, 1) := by decide +kernel
theorem dX9_personOf_89 : decode cX9_personOf 89 = .ok (.aload_n 0, 1) := by decide +kernel
theorem dX9_personOf_90 : decode cX9_personOf 90 = .ok (.getfield 19, 3) := by decide +kernel
theorem dX9_personOf_93 : decode cX9_personOf 93 = .ok (.iload_n 1, 1) := by decide +kernel
theorem dX9_personOf_94 : decode cX9_personOf 94 = .ok (.iaload, 1) := by decide +kernel
theorem dX9_personOf_95 : decode cX9_personOf 95 = .ok (.ireturn, 1) := by decide +kernel
theorem dX9_personOf_96 : decode cX9_personOf 96 = .ok (.aload_n 0, 1) := by decide +kernel
theorem dX9_personOf_97 : decode cX9_personOf 97 = .ok (.getfield 22, 3) := by decide +kernel
theorem dX9_personOf_100 : decode cX9_personOf 100 = .ok (.iload_n 1, 1) := by decide +kernel
theorem dX9_personOf_101 : decode cX9_personOf 101 = .ok (.iaload, 1) := by decide +kernel
theorem dX9_personOf_102 : decode cX9_personOf 102 = .ok (.ireturn, 1) := by decide +kernel
theorem dX9_personOf_103 : decode cX9_personOf 103 = .ok (.aload_n 0, 1) := by decide +kernel
theorem dX9_personOf_104 : decode cX9_personOf 104 = .ok (.getfield 25, 3) := by decide +kernel
theorem dX9_personOf_107 : decode cX9_personOf 107 = .ok (.iload_n 1, 1) := by decide +kernel
theorem dX9_personOf_108 : decode cX9_personOf 108 = .ok (.iaload, 1) := by decide +kernel
theorem dX9_personOf_109 : decode cX9_personOf 109 = .ok (.ireturn, 1) := by decide +kernel
theorem dX9_personOf_110 : decode cX9_personOf 110 = .ok (.aload_n 0, 1) := by decide +kernel
theorem dX9_personOf_111 : decode cX9_personOf 111 = .ok (.iload_n 1, 1) := by decide +kernel
theorem dX9_personOf_112 : decode cX9_personOf 112 = .ok (.invokevirtual 107, 3) := by decide +kernel
theorem dX9_personOf_115 : decode cX9_personOf 115 = .ok (.ireturn, 1) := by decide +kernel
theorem dX9_personOf_116 : decode cX9_personOf 116 = .ok (.aload_n 0, 1) := by decide +kernel
theorem dX9_personOf_117 : decode cX9_personOf 117 = .ok (.iload_n 1, 1) := by decide +kernel
theorem dX9_personOf_118 : decode cX9_personOf 118 = .ok (.invokevirtual 134, 3) := by decide +kernel
theorem dX9_personOf_121 : decode cX9_personOf 121 = .ok (.ifCond .eq 7, 3) := by decide +kernel
theorem dX9_personOf_124 : decode cX9_personOf 124 = .ok (.iconst 1, 1) := by decide +kernel
theorem dX9_personOf_125 : decode cX9_personOf 125 = .ok (.goto 4, 3) := by decide +kernel
theorem dX9_personOf_128 : decode cX9_personOf 128 = .ok (.iconst 0, 1) := by decide +kernel
theorem dX9_personOf_129 : decode cX9_personOf 129 = .ok (.ireturn, 1) := by decide +kernel
theorem dX9_personOf_130 : decode cX9_personOf 130 = .ok (.aload_n 0, 1) := by decide +kernel
theorem dX9_personOf_131 : decode cX9_personOf 131 = .ok (.iload_n 1, 1) := by decide +kernel
theorem dX9_personOf_132 : decode cX9_personOf 132 = .ok (.invokevirtual 137, 3) := by decide +kernel
theorem dX9_personOf_135 : decode cX9_personOf 135 = .ok (.ifCond .eq 7, 3) := by decide +kernel
theorem dX9_personOf_138 : decode cX9_personOf 138 = .ok (.iconst 1, 1) := by decide +kernel
theorem dX9_personOf_139 : decode cX9_personOf 139 = .ok (.goto 4, 3) := by decide +kernel
theorem dX9_personOf_142 : decode cX9_personOf 142 = .ok (.iconst 0, 1) := by decide +kernel
theorem dX9_personOf_143 : decode cX9_personOf 143 = .ok (.ireturn, 1) := by decide +kernel
theorem dX9_personOf_144 : decode cX9_personOf 144 = .ok (.aload_n 0, 1) := by decide +kernel
theorem dX9_personOf_145 : decode cX9_personOf 145 = .ok (.bipush (-5), 2) := by decide +kernel
theorem dX9_personOf_147 : decode cX9_personOf 147 = .ok (.invokevirtual 79, 3) := by decide +kernel
theorem dX9_personOf_150 : decode cX9_personOf 150 = .ok (.ireturn, 1) := by decide +kernel
theorem dX9_squareOf_0 : decode cX9_squareOf 0 = .ok (.iload_n 1, 1) := by decide +kernel
theorem dX9_squareOf_1 : decode cX9_squareOf 1 = .ok (.invokestatic 110, 3) := by decide +kernel
theorem dX9_squareOf_4 : decode cX9_squareOf 4 = .ok (.ifCond .eq 12, 3) := by decide +kernel
theorem dX9_squareOf_7 : decode cX9_squareOf 7 = .ok (.iload_n 2, 1) := by decide +kernel
theorem dX9_squareOf_8 : decode cX9_squareOf 8 = .ok (.iconst 0, 1) := by decide +kernel
theorem dX9_squareOf_9 : decode cX9_squareOf 9 = .ok (.iconst 1, 1) := by decide +kernel
theorem dX9_squareOf_10 : decode cX9_squareOf 10 = .ok (.invokestatic 86, 3) := by decide +kernel
theorem dX9_squareOf_13 : decode cX9_squareOf 13 = .ok (.ifCond .ne 10, 3) := by decide +kernel
theorem dX9_squareOf_16 : decode cX9_squareOf 16 = .ok (.aload_n 0, 1) := by decide +kernel
theorem dX9_squareOf_17 : decode cX9_squareOf 17 = .ok (.bipush (-5), 2) := by decide +kernel
theorem dX9_squareOf_19 : decode cX9_squareOf 19 = .ok (.invokevirtual 79, 3) := by decide +kernel
theorem dX9_squareOf_22 : decode cX9_squareOf 22 = .ok (.ireturn, 1) := by decide +kernel
theorem dX9_squareOf_23 : decode cX9_squareOf 23 = .ok (.iload_n 2, 1) := by decide +kernel
theorem dX9_squareOf_24 : decode cX9_squareOf 24 = .ok (.iconst 1, 1) := by decide +kernel
theorem dX9_squareOf_25 : decode cX9_squareOf 25 = .ok (.if_icmp .ne 11, 3) := by decide +kernel
theorem dX9_squareOf_28 : decode cX9_squareOf 28 = .ok (.aload_n 0, 1) := by decide +kernel
theorem dX9_squareOf_29 : decode cX9_squareOf 29 = .ok (.iload_n 1, 1) := by decide +kernel
theorem dX9_squareOf_30 : decode cX9_squareOf 30 = .ok (.invokevirtual 113, 3) := by decide +kernel
theorem dX9_squareOf_33 : decode cX9_squareOf 33 = .ok (.goto 17, 3) := by decide +kernel
theorem dX9_squareOf_36 : decode cX9_squareOf 36 = .ok (.aload_n 0, 1) := by decide +kernel
theorem dX9_squareOf_37 : decode cX9_squareOf 37 = .ok (.getfield 28, 3) := by decide +kernel
theorem dX9_squareOf_40 : decode cX9_squareOf 40 = .ok (.iload_n 1, 1) := by decide +kernel
theorem dX9_squareOf_41 : decode cX9_squareOf 41 = .ok (.baload, 1) := by decide +kernel
theorem dX9_squareOf_42 : decode cX9_squareOf 42 = .ok (.ifCond .eq 7, 3) := by decide +kernel
theorem dX9_squareOf_45 : decode cX9_squareOf 45 = .ok (.iconst 1, 1) := by decide +kernel
theorem dX9_squareOf_46 : decode cX9_squareOf 46 = .ok (.goto 4, 3) := by decide +kernel
theorem dX9_squareOf_49 : decode cX9_squareOf 49 = .ok (.iconst 0, 1) := by decide +kernel
theorem dX9_squareOf_50 : decode cX9_squareOf 50 = .ok (.ireturn, 1) := by decide +kernel
theorem dX9_sign_0 : decode cX9_sign 0 = .ok (.aload_n 0, 1) := by decide +kernel
theorem dX9_sign_1 : decode cX9_sign 1 = .ok (.getfield 140, 3) := by decide +kernel
theorem dX9_sign_4 : decode cX9_sign 4 = .ok (.aload_n 0, 1) := by decide +kernel
theorem dX9_sign_5 : decode cX9_sign 5 = .ok (.getfield 38, 3) := by decide +kernel
theorem dX9_sign_8 : decode cX9_sign 8 = .ok (.aload_n 0, 1) := by decide +kernel
theorem dX9_sign_9 : decode cX9_sign 9 = .ok (.getfield 143, 3) := by decide +kernel
theorem dX9_sign_12 : decode cX9_sign 12 = .ok (.iaload, 1) := by decide +kernel
theorem dX9_sign_13 : decode cX9_sign 13 = .ok (.if_icmp .ge 25, 3) := by decide +kernel
theorem dX9_sign_16 : decode cX9_sign 16 = .ok (.aload_n 0, 1) := by decide +kernel
theorem dX9_sign_17 : decode cX9_sign 17 = .ok (.getfield 41, 3) := by decide +kernel
theorem dX9_sign_20 : decode cX9_sign 20 = .ok (.sipush 160, 3) := by decide +kernel
theorem dX9_sign_23 : decode cX9_sign 23 = .ok (.aload_n 0, 1) := by decide +kernel
theorem dX9_sign_24 : decode cX9_sign 24 = .ok (.getfield 143, 3) := by decide +kernel
theorem dX9_sign_27 : decode cX9_sign 27 = .ok (.imul, 1) := by decide +kernel
theorem dX9_sign_28 : decode cX9_sign 28 = .ok (.aload_n 0, 1) := by decide +kernel
theorem dX9_sign_29 : decode cX9_sign 29 = .ok (.getfield 140, 3) := by decide +kernel
theorem dX9_sign_32 : decode cX9_sign 32 = .ok (.iadd, 1) := by decide +kernel
theorem dX9_sign_33 : decode cX9_sign 33 = .ok (.laload, 1) := by decide +kernel
theorem dX9_sign_34 : decode cX9_sign 34 = .ok (.l2i, 1) := by decide +kernel
theorem dX9_sign_35 : decode cX9_sign 35 = .ok (.goto 4, 3) := by decide +kernel
theorem dX9_sign_38 : decode cX9_sign 38 = .ok (.iconst (-1), 1) := by decide +kernel
theorem dX9_sign_39 : decode cX9_sign 39 = .ok (.ireturn, 1) := by decide +kernel
theorem dX9_is_0 : decode cX9_is 0 = .ok (.aload_n 0, 1) := by decide +kernel
theorem dX9_is_1 : decode cX9_is 1 = .ok (.invokevirtual 146, 3) := by decide +kernel
theorem dX9_is_4 : decode cX9_is 4 = .ok (.iload_n 1, 1) := by decide +kernel
theorem dX9_is_5 : decode cX9_is 5 = .ok (.if_icmp .eq 5, 3) := by decide +kernel
theorem dX9_is_8 : decode cX9_is 8 = .ok (.iconst 0, 1) := by decide +kernel
theorem dX9_is_9 : decode cX9_is 9 = .ok (.ireturn, 1) := by decide +kernel
theorem dX9_is_10 : decode cX9_is 10 = .ok (.aload_n 0, 1) := by decide +kernel
theorem dX9_is_11 : decode cX9_is 11 = .ok (.dup, 1) := by decide +kernel
theorem dX9_is_12 : decode cX9_is 12 = .ok (.getfield 140, 3) := by decide +kernel
theorem dX9_is_15 : decode cX9_is 15 = .ok (.iconst 1, 1) := by decide +kernel
theorem dX9_is_16 : decode cX9_is 16 = .ok (.iadd, 1) := by decide +kernel
theorem dX9_is_17 : decode cX9_is 17 = .ok (.putfield 140, 3) := by decide +kernel
theorem dX9_is_20 : decode cX9_is 20 = .ok (.iconst 1, 1) := by decide +kernel
theorem dX9_is_21 : decode cX9_is 21 = .ok (.ireturn, 1) := by decide +kernel
theorem dX9_word_0 : decode cX9_word 0 = .ok (.iconst 0, 1) := by decide +kernel
theorem dX9_word_1 : decode cX9_word 1 = .ok (.istore_n 2, 1) := by decide +kernel
theorem dX9_word_2 : decode cX9_word 2 = .ok (.iload_n 2, 1) := by decide +kernel
theorem dX9_word_3 : decode cX9_word 3 = .ok (.aload_n 1, 1) := by decide +kernel
theorem dX9_word_4 : decode cX9_word 4 = .ok (.invokevirtual 150, 3) := by decide +kernel
theorem dX9_word_7 : decode cX9_word 7 = .ok (.if_icmp .ge 23, 3) := by decide +kernel
theorem dX9_word_10 : decode cX9_word 10 = .ok (.aload_n 0, 1) := by decide +kernel
theorem dX9_word_11 : decode cX9_word 11 = .ok (.aload_n 1, 1) := by decide +kernel
theorem dX9_word_12 : decode cX9_word 12 = .ok (.iload_n 2, 1) := by decide +kernel
theorem dX9_word_13 : decode cX9_word 13 = .ok (.invokevirtual 155, 3) := by decide +kernel
theorem dX9_word_16 : decode cX9_word 16 = .ok (.invokevirtual 159, 3) := by decide +kernel
theorem dX9_word_19 : decode cX9_word 19 = .ok (.ifCond .ne 5, 3) := by decide +kernel
theorem dX9_word_22 : decode cX9_word 22 = .ok (.iconst 0, 1) := by decide +kernel
theorem dX9_word_23 : decode cX9_word 23 = .ok (.ireturn, 1) := by decide +kernel
theorem dX9_word_24 : decode cX9_word 24 = .ok (.iinc 2 1, 3) := by decide +kernel
theorem dX9_word_27 : decode cX9_word 27 = .ok (.goto (-25), 3) := by decide +kernel
theorem dX9_word_30 : decode cX9_word 30 = .ok (.iconst 1, 1) := by decide +kernel
theorem dX9_word_31 : decode cX9_word 31 = .ok (.ireturn, 1) := by decide +kernel
theorem dX9_word__0 : decode cX9_word_ 0 = .ok (.aload_n 0, 1) := by decide +kernel
theorem dX9_word__1 : decode cX9_word_ 1 = .ok (.getfield 140, 3) := by decide +kernel
theorem dX9_word__4 : decode cX9_word_ 4 = .ok (.istore_n 3, 1) := by decide +kernel
theorem dX9_word__5 : decode cX9_word_ 5 = .ok (.aload_n 0, 1) := by decide +kernel
theorem dX9_word__6 : decode cX9_word_ 6 = .ok (.aload_n 1, 1) := by decide +kernel
theorem dX9_word__7 : decode cX9_word_ 7 = .ok (.invokevirtual 163, 3) := by decide +kernel
theorem dX9_word__10 : decode cX9_word_ 10 = .ok (.istore 4, 2) := by decide +kernel
theorem dX9_word__12 : decode cX9_word_ 12 = .ok (.iload 4, 2) := by decide +kernel
theorem dX9_word__14 : decode cX9_word_ 14 = .ok (.ifCond .eq 12, 3) := by decide +kernel
theorem dX9_word__17 : decode cX9_word_ 17 = .ok (.iload_n 2, 1) := by decide +kernel
theorem dX9_word__18 : decode cX9_word_ 18 = .ok (.ifCond .ne 8, 3) := by decide +kernel
theorem dX9_word__21 : decode cX9_word_ 21 = .ok (.aload_n 0, 1) := by decide +kernel
theorem dX9_word__22 : decode cX9_word_ 22 = .ok (.iload_n 3, 1) := by decide +kernel
theorem dX9_word__23 : decode cX9_word_ 23 = .ok (.putfield 140, 3) := by decide +kernel
theorem dX9_word__26 : decode cX9_word_ 26 = .ok (.iload 4, 2) := by decide +kernel
theorem dX9_word__28 : decode cX9_word_ 28 = .ok (.ifCond .eq 11, 3) := by decide +kernel
theorem dX9_word__31 : decode cX9_word_ 31 = .ok (.iload_n 2, 1) := by decide +kernel
theorem dX9_word__32 : decode cX9_word_ 32 = .ok (.ifCond .eq 7, 3) := by decide +kernel
theorem dX9_word__35 : decode cX9_word_ 35 = .ok (.iconst 1, 1) := by decide +kernel
theorem dX9_word__36 : decode cX9_word_ 36 = .ok (.goto 4, 3) := by decide +kernel
theorem dX9_word__39 : decode cX9_word_ 39 = .ok (.iconst 0, 1) := by decide +kernel
theorem dX9_word__40 : decode cX9_word_ 40 = .ok (.ireturn, 1) := by decide +kernel
theorem dX9_number_0 : decode cX9_number 0 = .ok (.aload_n 0, 1) := by decide +kernel
theorem dX9_number_1 : decode cX9_number 1 = .ok (.bipush 32, 2) := by decide +kernel
theorem dX9_number_3 : decode cX9_number 3 = .ok (.invokevirtual 159, 3) := by decide +kernel
theorem dX9_number_6 : decode cX9_number 6 = .ok (.ifCond .ne 5, 3) := by decide +kernel
theorem dX9_number_9 : decode cX9_number 9 = .ok (.iconst 0, 1) := by decide +kernel
theorem dX9_number_10 : decode cX9_number 10 = .ok (.ireturn, 1) := by decide +kernel
theorem dX9_number_11 : decode cX9_number 11 = .ok (.aload_n 0, 1) := by decide +kernel
theorem dX9_number_12 : decode cX9_number 12 = .ok (.getfield 140, 3) := by decide +kernel
theorem dX9_number_15 : decode cX9_number 15 = .ok (.istore 4, 2) := by decide +kernel
theorem dX9_number_17 : decode cX9_number 17 = .ok (.iconst 0, 1) := by decide +kernel
theorem dX9_number_18 : decode cX9_number 18 = .ok (.istore 5, 2) := by decide +kernel
theorem dX9_number_20 : decode cX9_number 20 = .ok (.aload_n 0, 1) := by decide +kernel
theorem dX9_number_21 : decode cX9_number 21 = .ok (.getfield 140, 3) := by decide +kernel
theorem dX9_number_24 : decode cX9_number 24 = .ok (.iload 4, 2) := by decide +kernel
theorem dX9_number_26 : decode cX9_number 26 = .ok (.isub, 1) := by decide +kernel
theorem dX9_number_27 : decode cX9_number 27 = .ok (.iconst 2, 1) := by decide +kernel
theorem dX9_number_28 : decode cX9_number 28 = .ok (.if_icmp .ge 49, 3) := by decide +kernel
theorem dX9_number_31 : decode cX9_number 31 = .ok (.aload_n 0, 1) := by decide +kernel
theorem dX9_number_32 : decode cX9_number 32 = .ok (.invokevirtual 146, 3) := by decide +kernel
theorem dX9_number_35 : decode cX9_number 35 = .ok (.bipush 48, 2) := by decide +kernel
theorem dX9_number_37 : decode cX9_number 37 = .ok (.if_icmp .lt 40, 3) := by decide +kernel
theorem dX9_number_40 : decode cX9_number 40 = .ok (.aload_n 0, 1) := by decide +kernel
theorem dX9_number_41 : decode cX9_number 41 = .ok (.invokevirtual 146, 3) := by decide +kernel
theorem dX9_number_44 : decode cX9_number 44 = .ok (.bipush 57, 2) := by decide +kernel
theorem dX9_number_46 : decode cX9_number 46 = .ok (.if_icmp .gt 31, 3) := by decide +kernel
theorem dX9_number_49 : decode cX9_number 49 = .ok (.bipush 10, 2) := by decide +kernel
theorem dX9_number_51 : decode cX9_number 51 = .ok (.iload 5, 2) := by decide +kernel
theorem dX9_number_53 : decode cX9_number 53 = .ok (.imul, 1) := by decide +kernel
theorem dX9_number_54 : decode cX9_number 54 = .ok (.aload_n 0, 1) := by decide +kernel
theorem dX9_number_55 : decode cX9_number 55 = .ok (.invokevirtual 146, 3) := by decide +kernel
theorem dX9_number_58 : decode cX9_number 58 = .ok (.iadd, 1) := by decide +kernel
theorem dX9_number_59 : decode cX9_number 59 = .ok (.bipush 48, 2) := by decide +kernel
theorem dX9_number_61 : decode cX9_number 61 = .ok (.isub, 1) := by decide +kernel
theorem dX9_number_62 : decode cX9_number 62 = .ok (.istore 5, 2) := by decide +kernel
theorem dX9_number_64 : decode cX9_number 64 = .ok (.aload_n 0, 1) := by decide +kernel
theorem dX9_number_65 : decode cX9_number 65 = .ok (.dup, 1) := by decide +kernel
theorem dX9_number_66 : decode cX9_number 66 = .ok (.getfield 140, 3) := by decide +kernel
theorem dX9_number_69 : decode cX9_number 69 = .ok (.iconst 1, 1) := by decide +kernel
theorem dX9_number_70 : decode cX9_number 70 = .ok (.iadd, 1) := by decide +kernel
theorem dX9_number_71 : decode cX9_number 71 = .ok (.putfield 140, 3) := by decide +kernel
theorem dX9_number_74 : decode cX9_number 74 = .ok (.goto (-54), 3) := by decide +kernel
theorem dX9_number_77 : decode cX9_number 77 = .ok (.aload_n 0, 1) := by decide +kernel
theorem dX9_number_78 : decode cX9_number 78 = .ok (.getfield 140, 3) := by decide +kernel
theorem dX9_number_81 : decode cX9_number 81 = .ok (.iload 4, 2) := by decide +kernel
theorem dX9_number_83 : decode cX9_number 83 = .ok (.if_icmp .ne 5, 3) := by decide +kernel
theorem dX9_number_86 : decode cX9_number 86 = .ok (.iconst 0, 1) := by decide +kernel
theorem dX9_number_87 : decode cX9_number 87 = .ok (.ireturn, 1) := by decide +kernel
theorem dX9_number_88 : decode cX9_number 88 = .ok (.aload_n 0, 1) := by decide +kernel
theorem dX9_number_89 : decode cX9_number 89 = .ok (.getfield 45, 3) := by decide +kernel
theorem dX9_number_92 : decode cX9_number 92 = .ok (.iload_n 1, 1) := by decide +kernel
theorem dX9_number_93 : decode cX9_number 93 = .ok (.iload 5, 2) := by decide +kernel
theorem dX9_number_95 : decode cX9_number 95 = .ok (.iastore, 1) := by decide +kernel
theorem dX9_number_96 : decode cX9_number 96 = .ok (.iload 5, 2) := by decide +kernel
theorem dX9_number_98 : decode cX9_number 98 = .ok (.iload_n 2, 1) := by decide +kernel
theorem dX9_number_99 : decode cX9_number 99 = .ok (.iload_n 3, 1) := by decide +kernel
theorem dX9_number_100 : decode cX9_number 100 = .ok (.invokestatic 86, 3) := by decide +kernel
theorem dX9_number_103 : decode cX9_number 103 = .ok (.istore 6, 2) := by decide +kernel
theorem dX9_number_105 : decode cX9_number 105 = .ok (.iload 6, 2) := by decide +kernel
theorem dX9_number_107 : decode cX9_number 107 = .ok (.ifCond .ne 9, 3) := by decide +kernel
theorem dX9_number_110 : decode cX9_number 110 = .ok (.aload_n 0, 1) := by decide +kernel
theorem dX9_number_111 : decode cX9_number 111 = .ok (.iload 4, 2) := by decide +kernel
theorem dX9_number_113 : decode cX9_number 113 = .ok (.putfield 140, 3) := by decide +kernel
theorem dX9_number_116 : decode cX9_number 116 = .ok (.iload 6, 2) := by decide +kernel
theorem dX9_number_118 : decode cX9_number 118 = .ok (.ireturn, 1) := by decide +kernel
theorem dX9_may_0 : decode cX9_may 0 = .ok (.iload_n 1, 1) := by decide +kernel
theorem dX9_may_1 : decode cX9_may 1 = .ok (.ifCond .ne 10, 3) := by decide +kernel
theorem dX9_may_4 : decode cX9_may 4 = .ok (.aload_n 0, 1) := by decide +kernel
theorem dX9_may_5 : decode cX9_may 5 = .ok (.iload_n 2, 1) := by decide +kernel
theorem dX9_may_6 : decode cX9_may 6 = .ok (.iconst 1, 1) := by decide +kernel
theorem dX9_may_7 : decode cX9_may 7 = .ok (.iadd, 1) := by decide +kernel
theorem dX9_may_8 : decode cX9_may 8 = .ok (.putfield 140, 3) := by decide +kernel
theorem dX9_may_11 : decode cX9_may 11 = .ok (.iload_n 1, 1) := by decide +kernel
theorem dX9_may_12 : decode cX9_may 12 = .ok (.ireturn, 1) := by decide +kernel
theorem dX9_item_0 : decode cX9_item 0 = .ok (.aload_n 0, 1) := by decide +kernel
theorem dX9_item_1 : decode cX9_item 1 = .ok (.invokevirtual 146, 3) := by decide +kernel
theorem dX9_item_4 : decode cX9_item 4 = .ok (.lookupswitch 370 #[(102, 44), (111, 104), (112, 139), (115, 280)], 44) := by decide +kernel
theorem dX9_item_48 : decode cX9_item 48 = .ok (.aload_n 0, 1) := by decide +kernel
theorem dX9_item_49 : decode cX9_item 49 = .ok (.ldc 167, 2) := by decide +kernel
theorem dX9_item_51 : decode cX9_item 51 = .ok (.invokevirtual 163, 3) := by decide +kernel
theorem dX9_item_54 : decode cX9_item 54 = .ok (.ifCond .ne 5, 3) := by decide +kernel
theorem dX9_item_57 : decode cX9_item 57 = .ok (.iconst 0, 1) := by decide +kernel
theorem dX9_item_58 : decode cX9_item 58 = .ok (.ireturn, 1) := by decide +kernel
theorem dX9_item_59 : decode cX9_item 59 = .ok (.aload_n 0, 1) := by decide +kernel
theorem dX9_item_60 : decode cX9_item 60 = .ok (.getfield 140, 3) := by decide +kernel
theorem dX9_item_63 : decode cX9_item 63 = .ok (.istore_n 1, 1) := by decide +kernel
theorem dX9_item_64 : decode cX9_item 64 = .ok (.aload_n 0, 1) := by decide +kernel
theorem dX9_item_65 : decode cX9_item 65 = .ok (.iconst 0, 1) := by decide +kernel
theorem dX9_item_66 : decode cX9_item 66 = .ok (.iconst 0, 1) := by decide +kernel
theorem dX9_item_67 : decode cX9_item 67 = .ok (.bipush 48, 2) := by decide +kernel
theorem dX9_item_69 : decode cX9_item 69 = .ok (.invokevirtual 169, 3) := by decide +kernel
theorem dX9_item_72 : decode cX9_item 72 = .ok (.ifCond .eq 21, 3) := by decide +kernel
theorem dX9_item_75 : decode cX9_item 75 = .ok (.aload_n 0, 1) := by decide +kernel
theorem dX9_item_76 : decode cX9_item 76 = .ok (.aload_n 0, 1) := by decide +kernel
theorem dX9_item_77 : decode cX9_item 77 = .ok (.aload_n 0, 1) := by decide +kernel
theorem dX9_item_78 : decode cX9_item 78 = .ok (.getfield 45, 3) := by decide +kernel
theorem dX9_item_81 : decode cX9_item 81 = .ok (.iconst 0, 1) := by decide +kernel
theorem dX9_item_82 : decode cX9_item 82 = .ok (.iaload, 1) := by decide +kernel
theorem dX9_item_83 : decode cX9_item 83 = .ok (.invokevirtual 127, 3) := by decide +kernel
theorem dX9_item_86 : decode cX9_item 86 = .ok (.iload_n 1, 1) := by decide +kernel
theorem dX9_item_87 : decode cX9_item 87 = .ok (.invokevirtual 172, 3) := by decide +kernel
theorem dX9_item_90 : decode cX9_item 90 = .ok (.ifCond .ne 5, 3) := by decide +kernel
theorem dX9_item_93 : decode cX9_item 93 = .ok (.iconst 0, 1) := by decide +kernel
theorem dX9_item_94 : decode cX9_item 94 = .ok (.ireturn, 1) := by decide +kernel
theorem dX9_item_95 : decode cX9_item 95 = .ok (.aload_n 0, 1) := by decide +kernel
theorem dX9_item_96 : decode cX9_item 96 = .ok (.aload_n 0, 1) := by decide +kernel
theorem dX9_item_97 : decode cX9_item 97 = .ok (.getfield 45, 3) := by decide +kernel
theorem dX9_item_100 : decode cX9_item 100 = .ok (.iconst 0, 1) := by decide +kernel
theorem dX9_item_101 : decode cX9_item 101 = .ok (.iaload, 1) := by decide +kernel
theorem dX9_item_102 : decode cX9_item 102 = .ok (.iconst 1, 1) := by decide +kernel
theorem dX9_item_103 : decode cX9_item 103 = .ok (.invokevirtual 130, 3) := by decide +kernel
theorem dX9_item_106 : decode cX9_item 106 = .ok (.iconst 1, 1) := by decide +kernel
theorem dX9_item_107 : decode cX9_item 107 = .ok (.ireturn, 1) := by decide +kernel
theorem dX9_item_108 : decode cX9_item 108 = .ok (.aload_n 0, 1) := by decide +kernel
theorem dX9_item_109 : decode cX9_item 109 = .ok (.ldc 176, 2) := by decide +kernel
theorem dX9_item_111 : decode cX9_item 111 = .ok (.invokevirtual 163, 3) := by decide +kernel
theorem dX9_item_114 : decode cX9_item 114 = .ok (.ifCond .eq 14, 3) := by decide +kernel
theorem dX9_item_117 : decode cX9_item 117 = .ok (.aload_n 0, 1) := by decide +kernel
theorem dX9_item_118 : decode cX9_item 118 = .ok (.iconst 0, 1) := by decide +kernel
theorem dX9_item_119 : decode cX9_item 119 = .ok (.iconst 0, 1) := by decide +kernel
theorem dX9_item_120 : decode cX9_item 120 = .ok (.bipush 48, 2) := by decide +kernel
theorem dX9_item_122 : decode cX9_item 122 = .ok (.invokevirtual 169, 3) := by decide +kernel
theorem dX9_item_125 : decode cX9_item 125 = .ok (.ifCond .ne 5, 3) := by decide +kernel
theorem dX9_item_128 : decode cX9_item 128 = .ok (.iconst 0, 1) := by decide +kernel
theorem dX9_item_129 : decode cX9_item 129 = .ok (.ireturn, 1) := by decide +kernel
theorem dX9_item_130 : decode cX9_item 130 = .ok (.aload_n 0, 1) := by decide +kernel
theorem dX9_item_131 : decode cX9_item 131 = .ok (.aload_n 0, 1) := by decide +kernel
theorem dX9_item_132 : decode cX9_item 132 = .ok (.getfield 45, 3) := by decide +kernel
theorem dX9_item_135 : decode cX9_item 135 = .ok (.iconst 0, 1) := by decide +kernel
theorem dX9_item_136 : decode cX9_item 136 = .ok (.iaload, 1) := by decide +kernel
theorem dX9_item_137 : decode cX9_item 137 = .ok (.iconst 0, 1) := by decide +kernel
theorem dX9_item_138 : decode cX9_item 138 = .ok (.invokevirtual 130, 3) := by decide +kernel
theorem dX9_item_141 : decode cX9_item 141 = .ok (.iconst 1, 1) := by decide +kernel
theorem dX9_item_142 : decode cX9_item 142 = .ok (.ireturn, 1) := by decide +kernel
theorem dX9_item_143 : decode cX9_item 143 = .ok (.aload_n 0, 1) := by decide +kernel
theorem dX9_item_144 : decode cX9_item 144 = .ok (.ldc 178, 2) := by decide +kernel
theorem dX9_item_146 : decode cX9_item 146 = .ok (.aload_n 0, 1) := by decide +kernel
theorem dX9_item_147 : decode cX9_item 147 = .ok (.getfield 83, 3) := by decide +kernel
theorem dX9_item_150 : decode cX9_item 150 = .ok (.bipush 7, 2) := by decide +kernel
theorem dX9_item_152 : decode cX9_item 152 = .ok (.if_icmp .ge 7, 3) := by decide +kernel
theorem dX9_item_155 : decode cX9_item 155 = .ok (.iconst 1, 1) := by decide +kernel
theorem dX9_item_156 : decode cX9_item 156 = .ok (.goto 4, 3) := by decide +kernel
theorem dX9_item_159 : decode cX9_item 159 = .ok (.iconst 0, 1) := by decide +kernel
theorem dX9_item_160 : decode cX9_item 160 = .ok (.invokevirtual 180, 3) := by decide +kernel
theorem dX9_item_163 : decode cX9_item 163 = .ok (.ifCond .eq 46, 3) := by decide +kernel
theorem dX9_item_166 : decode cX9_item 166 = .ok (.aload_n 0, 1) := by decide +kernel
theorem dX9_item_167 : decode cX9_item 167 = .ok (.iconst 0, 1) := by decide +kernel
theorem dX9_item_168 : decode cX9_item 168 = .ok (.iconst 0, 1) := by decide +kernel
theorem dX9_item_169 : decode cX9_item 169 = .ok (.bipush 6, 2) := by decide +kernel
theorem dX9_item_171 : decode cX9_item 171 = .ok (.invokevirtual 169, 3) := by decide +kernel
theorem dX9_item_174 : decode cX9_item 174 = .ok (.ifCond .eq 35, 3) := by decide +kernel
theorem dX9_item_177 : decode cX9_item 177 = .ok (.aload_n 0, 1) := by decide +kernel
theorem dX9_item_178 : decode cX9_item 178 = .ok (.iconst 1, 1) := by decide +kernel
theorem dX9_item_179 : decode cX9_item 179 = .ok (.iconst 0, 1) := by decide +kernel
theorem dX9_item_180 : decode cX9_item 180 = .ok (.bipush 9, 2) := by decide +kernel
theorem dX9_item_182 : decode cX9_item 182 = .ok (.invokevirtual 169, 3) := by decide +kernel
theorem dX9_item_185 : decode cX9_item 185 = .ok (.ifCond .eq 24, 3) := by decide +kernel
theorem dX9_item_188 : decode cX9_item 188 = .ok (.aload_n 0, 1) := by decide +kernel
theorem dX9_item_189 : decode cX9_item 189 = .ok (.iconst 2, 1) := by decide +kernel
theorem dX9_item_190 : decode cX9_item 190 = .ok (.iconst 0, 1) := by decide +kernel
theorem dX9_item_191 : decode cX9_item 191 = .ok (.bipush 20, 2) := by decide +kernel
theorem dX9_item_193 : decode cX9_item 193 = .ok (.invokevirtual 169, 3) := by decide +kernel
theorem dX9_item_196 : decode cX9_item 196 = .ok (.ifCond .eq 13, 3) := by decide +kernel
theorem dX9_item_199 : decode cX9_item 199 = .ok (.aload_n 0, 1) := by decide +kernel
theorem dX9_item_200 : decode cX9_item 200 = .ok (.iconst 3, 1) := by decide +kernel
theorem dX9_item_201 : decode cX9_item 201 = .ok (.iconst 1, 1) := by decide +kernel
theorem dX9_item_202 : decode cX9_item 202 = .ok (.iconst 4, 1) := by decide +kernel
theorem dX9_item_203 : decode cX9_item 203 = .ok (.invokevirtual 169, 3) := by decide +kernel
theorem dX9_item_206 : decode cX9_item 206 = .ok (.ifCond .ne 5, 3) := by decide +kernel
theorem dX9_item_209 : decode cX9_item 209 = .ok (.iconst 0, 1) := by decide +kernel
theorem dX9_item_210 : decode cX9_item 210 = .ok (.ireturn, 1) := by decide +kernel
theorem dX9_item_211 : decode cX9_item 211 = .ok (.aload_n 0, 1) := by decide +kernel
theorem dX9_item_212 : decode cX9_item 212 = .ok (.getfield 140, 3) := by decide +kernel
theorem dX9_item_215 : decode cX9_item 215 = .ok (.istore_n 1, 1) := by decide +kernel
theorem dX9_item_216 : decode cX9_item 216 = .ok (.aload_n 0, 1) := by decide +kernel
theorem dX9_item_217 : decode cX9_item 217 = .ok (.iconst 4, 1) := by decide +kernel
theorem dX9_item_218 : decode cX9_item 218 = .ok (.iconst 0, 1) := by decide +kernel
theorem dX9_item_219 : decode cX9_item 219 = .ok (.bipush 48, 2) := by decide +kernel
theorem dX9_item_221 : decode cX9_item 221 = .ok (.invokevirtual 169, 3) := by decide +kernel
theorem dX9_item_224 : decode cX9_item 224 = .ok (.ifCond .eq 21, 3) := by decide +kernel
theorem dX9_item_227 : decode cX9_item 227 = .ok (.aload_n 0, 1) := by decide +kernel
theorem dX9_item_228 : decode cX9_item 228 = .ok (.aload_n 0, 1) := by decide +kernel
theorem dX9_item_229 : decode cX9_item 229 = .ok (.aload_n 0, 1) := by decide +kernel
theorem dX9_item_230 : decode cX9_item 230 = .ok (.getfield 45, 3) := by decide +kernel
theorem dX9_item_233 : decode cX9_item 233 = .ok (.iconst 4, 1) := by decide +kernel
theorem dX9_item_234 : decode cX9_item 234 = .ok (.iaload, 1) := by decide +kernel
theorem dX9_item_235 : decode cX9_item 235 = .ok (.invokevirtual 116, 3) := by decide +kernel
theorem dX9_item_238 : decode cX9_item 238 = .ok (.iload_n 1, 1) := by decide +kernel
theorem dX9_item_239 : decode cX9_item 239 = .ok (.invokevirtual 172, 3) := by decide +kernel
theorem dX9_item_242 : decode cX9_item 242 = .ok (.ifCond .ne 5, 3) := by decide +kernel
theorem dX9_item_245 : decode cX9_item 245 = .ok (.iconst 0, 1) := by decide +kernel
theorem dX9_item_246 : decode cX9_item 246 = .ok (.ireturn, 1) := by decide +kernel
theorem dX9_item_247 : decode cX9_item 247 = .ok (.aload_n 0, 1) := by decide +kernel
theorem dX9_item_248 : decode cX9_item 248 = .ok (.aload_n 0, 1) := by decide +kernel
theorem dX9_item_249 : decode cX9_item 249 = .ok (.getfield 45, 3) := by decide +kernel
theorem dX9_item_252 : decode cX9_item 252 = .ok (.iconst 0, 1) := by decide +kernel
theorem dX9_item_253 : decode cX9_item 253 = .ok (.iaload, 1) := by decide +kernel
theorem dX9_item_254 : decode cX9_item 254 = .ok (.aload_n 0, 1) := by decide +kernel
theorem dX9_item_255 : decode cX9_item 255 = .ok (.getfield 45, 3) := by decide +kernel
theorem dX9_item_258 : decode cX9_item 258 = .ok (.iconst 1, 1) := by decide +kernel
theorem dX9_item_259 : decode cX9_item 259 = .ok (.iaload, 1) := by decide +kernel
theorem dX9_item_260 : decode cX9_item 260 = .ok (.aload_n 0, 1) := by decide +kernel
theorem dX9_item_261 : decode cX9_item 261 = .ok (.getfield 45, 3) := by decide +kernel
theorem dX9_item_264 : decode cX9_item 264 = .ok (.iconst 2, 1) := by decide +kernel
theorem dX9_item_265 : decode cX9_item 265 = .ok (.iaload, 1) := by decide +kernel
theorem dX9_item_266 : decode cX9_item 266 = .ok (.aload_n 0, 1) := by decide +kernel
theorem dX9_item_267 : decode cX9_item 267 = .ok (.getfield 45, 3) := by decide +kernel
theorem dX9_item_270 : decode cX9_item 270 = .ok (.iconst 3, 1) := by decide +kernel
theorem dX9_item_271 : decode cX9_item 271 = .ok (.iaload, 1) := by decide +kernel
theorem dX9_item_272 : decode cX9_item 272 = .ok (.aload_n 0, 1) := by decide +kernel
theorem dX9_item_273 : decode cX9_item 273 = .ok (.getfield 45, 3) := by decide +kernel
theorem dX9_item_276 : decode cX9_item 276 = .ok (.iconst 4, 1) := by decide +kernel
theorem dX9_item_277 : decode cX9_item 277 = .ok (.iaload, 1) := by decide +kernel
theorem dX9_item_278 : decode cX9_item 278 = .ok (.invokevirtual 119, 3) := by decide +kernel
theorem dX9_item_281 : decode cX9_item 281 = .ok (.pop, 1) := by decide +kernel
theorem dX9_item_282 : decode cX9_item 282 = .ok (.iconst 1, 1) := by decide +kernel
theorem dX9_item_283 : decode cX9_item 283 = .ok (.ireturn, 1) := by decide +kernel
theorem dX9_item_284 : decode cX9_item 284 = .ok (.aload_n 0, 1) := by decide +kernel
theorem dX9_item_285 : decode cX9_item 285 = .ok (.dup, 1) := by decide +kernel
theorem dX9_item_286 : decode cX9_item 286 = .ok (.getfield 140, 3) := by decide +kernel
theorem dX9_item_289 : decode cX9_item 289 = .ok (.iconst 1, 1) := by decide +kernel
theorem dX9_item_290 : decode cX9_item 290 = .ok (.iadd, 1) := by decide +kernel
theorem dX9_item_291 : decode cX9_item 291 = .ok (.putfield 140, 3) := by decide +kernel
theorem dX9_item_294 : decode cX9_item 294 = .ok (.aload_n 0, 1) := by decide +kernel
theorem dX9_item_295 : decode cX9_item 295 = .ok (.invokevirtual 146, 3) := by decide +kernel
theorem dX9_item_298 : decode cX9_item 298 = .ok (.bipush 99, 2) := by decide +kernel
theorem dX9_item_300 : decode cX9_item 300 = .ok (.if_icmp .ne 39, 3) := by decide +kernel
theorem dX9_item_303 : decode cX9_item 303 = .ok (.aload_n 0, 1) := by decide +kernel
theorem dX9_item_304 : decode cX9_item 304 = .ok (.ldc 183, 2) := by decide +kernel
theorem dX9_item_306 : decode cX9_item 306 = .ok (.invokevirtual 163, 3) := by decide +kernel
theorem dX9_item_309 : decode cX9_item 309 = .ok (.ifCond .eq 14, 3) := by decide +kernel
theorem dX9_item_312 : decode cX9_item 312 = .ok (.aload_n 0, 1) := by decide +kernel
theorem dX9_item_313 : decode cX9_item 313 = .ok (.iconst 0, 1) := by decide +kernel
theorem dX9_item_314 : decode cX9_item 314 = .ok (.iconst 0, 1) := by decide +kernel
theorem dX9_item_315 : decode cX9_item 315 = .ok (.bipush 40, 2) := by decide +kernel
theorem dX9_item_317 : decode cX9_item 317 = .ok (.invokevirtual 169, 3) := by decide +kernel
theorem dX9_item_320 : decode cX9_item 320 = .ok (.ifCond .ne 5, 3) := by decide +kernel
theorem dX9_item_323 : decode cX9_item 323 = .ok (.iconst 0, 1) := by decide +kernel
theorem dX9_item_324 : decode cX9_item 324 = .ok (.ireturn, 1) := by decide +kernel
theorem dX9_item_325 : decode cX9_item 325 = .ok (.aload_n 0, 1) := by decide +kernel
theorem dX9_item_326 : decode cX9_item 326 = .ok (.getfield 32, 3) := by decide +kernel
theorem dX9_item_329 : decode cX9_item 329 = .ok (.iconst 1, 1) := by decide +kernel
theorem dX9_item_330 : decode cX9_item 330 = .ok (.aload_n 0, 1) := by decide +kernel
theorem dX9_item_331 : decode cX9_item 331 = .ok (.getfield 45, 3) := by decide +kernel
theorem dX9_item_334 : decode cX9_item 334 = .ok (.iconst 0, 1) := by decide +kernel
theorem dX9_item_335 : decode cX9_item 335 = .ok (.iaload, 1) := by decide +kernel
theorem dX9_item_336 : decode cX9_item 336 = .ok (.iastore, 1) := by decide +kernel
theorem dX9_item_337 : decode cX9_item 337 = .ok (.iconst 1, 1) := by decide +kernel
theorem dX9_item_338 : decode cX9_item 338 = .ok (.ireturn, 1) := by decide +kernel
theorem dX9_item_339 : decode cX9_item 339 = .ok (.aload_n 0, 1) := by decide +kernel
theorem dX9_item_340 : decode cX9_item 340 = .ok (.ldc 185, 2) := by decide +kernel
theorem dX9_item_342 : decode cX9_item 342 = .ok (.invokevirtual 163, 3) := by decide +kernel
theorem dX9_item_345 : decode cX9_item 345 = .ok (.ifCond .eq 13, 3) := by decide +kernel
theorem dX9_item_348 : decode cX9_item 348 = .ok (.aload_n 0, 1) := by decide +kernel
theorem dX9_item_349 : decode cX9_item 349 = .ok (.iconst 0, 1) := by decide +kernel
theorem dX9_item_350 : decode cX9_item 350 = .ok (.iconst 1, 1) := by decide +kernel
theorem dX9_item_351 : decode cX9_item 351 = .ok (.iconst 4, 1) := by decide +kernel
theorem dX9_item_352 : decode cX9_item 352 = .ok (.invokevirtual 169, 3) := by decide +kernel
theorem dX9_item_355 : decode cX9_item 355 = .ok (.ifCond .ne 5, 3) := by decide +kernel
theorem dX9_item_358 : decode cX9_item 358 = .ok (.iconst 0, 1) := by decide +kernel
theorem dX9_item_359 : decode cX9_item 359 = .ok (.ireturn, 1) := by decide +kernel
theorem dX9_item_360 : decode cX9_item 360 = .ok (.aload_n 0, 1) := by decide +kernel
theorem dX9_item_361 : decode cX9_item 361 = .ok (.getfield 32, 3) := by decide +kernel
theorem dX9_item_364 : decode cX9_item 364 = .ok (.iconst 0, 1) := by decide +kernel
theorem dX9_item_365 : decode cX9_item 365 = .ok (.aload_n 0, 1) := by decide +kernel
theorem dX9_item_366 : decode cX9_item 366 = .ok (.getfield 45, 3) := by decide +kernel
theorem dX9_item_369 : decode cX9_item 369 = .ok (.iconst 0, 1) := by decide +kernel
theorem dX9_item_370 : decode cX9_item 370 = .ok (.iaload, 1) := by decide +kernel
theorem dX9_item_371 : decode cX9_item 371 = .ok (.iastore, 1) := by decide +kernel
theorem dX9_item_372 : decode cX9_item 372 = .ok (.iconst 1, 1) := by decide +kernel
theorem dX9_item_373 : decode cX9_item 373 = .ok (.ireturn, 1) := by decide +kernel
theorem dX9_item_374 : decode cX9_item 374 = .ok (.iconst 0, 1) := by decide +kernel
theorem dX9_item_375 : decode cX9_item 375 = .ok (.ireturn, 1) := by decide +kernel
theorem dX9_port_0 : decode cX9_port 0 = .ok (.aload_n 0, 1) := by decide +kernel
theorem dX9_port_1 : decode cX9_port 1 = .ok (.iload_n 1, 1) := by decide +kernel
theorem dX9_port_2 : decode cX9_port 2 = .ok (.invokevirtual 94, 3) := by decide +kernel
theorem dX9_port_5 : decode cX9_port 5 = .ok (.istore_n 2, 1) := by decide +kernel
theorem dX9_port_6 : decode cX9_port 6 = .ok (.iload_n 2, 1) := by decide +kernel
theorem dX9_port_7 : decode cX9_port 7 = .ok (.ifCond .ge 9, 3) := by decide +kernel
theorem dX9_port_10 : decode cX9_port 10 = .ok (.aload_n 0, 1) := by decide +kernel
theorem dX9_port_11 : decode cX9_port 11 = .ok (.iload_n 2, 1) := by decide +kernel
theorem dX9_port_12 : decode cX9_port 12 = .ok (.invokevirtual 79, 3) := by decide +kernel
theorem dX9_port_15 : decode cX9_port 15 = .ok (.ireturn, 1) := by decide +kernel
theorem dX9_port_16 : decode cX9_port 16 = .ok (.aload_n 0, 1) := by decide +kernel
theorem dX9_port_17 : decode cX9_port 17 = .ok (.aload_n 0, 1) := by decide +kernel
theorem dX9_port_18 : decode cX9_port 18 = .ok (.getfield 48, 3) := by decide +kernel
theorem dX9_port_21 : decode cX9_port 21 = .ok (.invokevirtual 187, 3) := by decide +kernel
theorem dX9_port_24 : decode cX9_port 24 = .ok (.aload_n 0, 1) := by decide +kernel
theorem dX9_port_25 : decode cX9_port 25 = .ok (.iload_n 1, 1) := by decide +kernel
theorem dX9_port_26 : decode cX9_port 26 = .ok (.putfield 143, 3) := by decide +kernel
theorem dX9_port_29 : decode cX9_port 29 = .ok (.aload_n 0, 1) := by decide +kernel
theorem dX9_port_30 : decode cX9_port 30 = .ok (.iconst 0, 1) := by decide +kernel
theorem dX9_port_31 : decode cX9_port 31 = .ok (.putfield 140, 3) := by decide +kernel
theorem dX9_port_34 : decode cX9_port 34 = .ok (.iconst 0, 1) := by decide +kernel
theorem dX9_port_35 : decode cX9_port 35 = .ok (.istore_n 3, 1) := by decide +kernel
theorem dX9_port_36 : decode cX9_port 36 = .ok (.iconst 1, 1) := by decide +kernel
theorem dX9_port_37 : decode cX9_port 37 = .ok (.istore 4, 2) := by decide +kernel
theorem dX9_port_39 : decode cX9_port 39 = .ok (.iload 4, 2) := by decide +kernel
theorem dX9_port_41 : decode cX9_port 41 = .ok (.ifCond .eq 58, 3) := by decide +kernel
theorem dX9_port_44 : decode cX9_port 44 = .ok (.aload_n 0, 1) := by decide +kernel
theorem dX9_port_45 : decode cX9_port 45 = .ok (.invokevirtual 191, 3) := by decide +kernel
theorem dX9_port_48 : decode cX9_port 48 = .ok (.istore 4, 2) := by decide +kernel
theorem dX9_port_50 : decode cX9_port 50 = .ok (.iload 4, 2) := by decide +kernel
theorem dX9_port_52 : decode cX9_port 52 = .ok (.ifCond .eq 6, 3) := by decide +kernel
theorem dX9_port_55 : decode cX9_port 55 = .ok (.iinc 3 1, 3) := by decide +kernel
theorem dX9_port_58 : decode cX9_port 58 = .ok (.iload 4, 2) := by decide +kernel
theorem dX9_port_60 : decode cX9_port 60 = .ok (.ifCond .eq 23, 3) := by decide +kernel
theorem dX9_port_63 : decode cX9_port 63 = .ok (.aload_n 0, 1) := by decide +kernel
theorem dX9_port_64 : decode cX9_port 64 = .ok (.getfield 140, 3) := by decide +kernel
theorem dX9_port_67 : decode cX9_port 67 = .ok (.aload_n 0, 1) := by decide +kernel
theorem dX9_port_68 : decode cX9_port 68 = .ok (.getfield 38, 3) := by decide +kernel
theorem dX9_port_71 : decode cX9_port 71 = .ok (.iload_n 1, 1) := by decide +kernel
theorem dX9_port_72 : decode cX9_port 72 = .ok (.iaload, 1) := by decide +kernel
theorem dX9_port_73 : decode cX9_port 73 = .ok (.if_icmp .ne 10, 3) := by decide +kernel
theorem dX9_port_76 : decode cX9_port 76 = .ok (.aload_n 0, 1) := by decide +kernel
theorem dX9_port_77 : decode cX9_port 77 = .ok (.iconst (-1), 1) := by decide +kernel
theorem dX9_port_78 : decode cX9_port 78 = .ok (.putfield 76, 3) := by decide +kernel
theorem dX9_port_81 : decode cX9_port 81 = .ok (.iload_n 3, 1) := by decide +kernel
theorem dX9_port_82 : decode cX9_port 82 = .ok (.ireturn, 1) := by decide +kernel
theorem dX9_port_83 : decode cX9_port 83 = .ok (.iload 4, 2) := by decide +kernel
theorem dX9_port_85 : decode cX9_port 85 = .ok (.ifCond .eq (-46), 3) := by decide +kernel
theorem dX9_port_88 : decode cX9_port 88 = .ok (.aload_n 0, 1) := by decide +kernel
theorem dX9_port_89 : decode cX9_port 89 = .ok (.bipush 59, 2) := by decide +kernel
theorem dX9_port_91 : decode cX9_port 91 = .ok (.invokevirtual 159, 3) := by decide +kernel
theorem dX9_port_94 : decode cX9_port 94 = .ok (.istore 4, 2) := by decide +kernel
theorem dX9_port_96 : decode cX9_port 96 = .ok (.goto (-57), 3) := by decide +kernel
theorem dX9_port_99 : decode cX9_port 99 = .ok (.aload_n 0, 1) := by decide +kernel
theorem dX9_port_100 : decode cX9_port 100 = .ok (.aload_n 0, 1) := by decide +kernel
theorem dX9_port_101 : decode cX9_port 101 = .ok (.getfield 140, 3) := by decide +kernel
theorem dX9_port_104 : decode cX9_port 104 = .ok (.putfield 76, 3) := by decide +kernel
theorem dX9_port_107 : decode cX9_port 107 = .ok (.aload_n 0, 1) := by decide +kernel
theorem dX9_port_108 : decode cX9_port 108 = .ok (.aload_n 0, 1) := by decide +kernel
theorem dX9_port_109 : decode cX9_port 109 = .ok (.getfield 48, 3) := by decide +kernel
theorem dX9_port_112 : decode cX9_port 112 = .ok (.invokevirtual 195, 3) := by decide +kernel
theorem dX9_port_115 : decode cX9_port 115 = .ok (.aload_n 0, 1) := by decide +kernel
theorem dX9_port_116 : decode cX9_port 116 = .ok (.bipush (-6), 2) := by decide +kernel
theorem dX9_port_118 : decode cX9_port 118 = .ok (.invokevirtual 79, 3) := by decide +kernel
theorem dX9_port_121 : decode cX9_port 121 = .ok (.ireturn, 1) := by decide +kernel
theorem dX9_fault_0 : decode cX9_fault 0 = .ok (.aload_n 0, 1) := by decide +kernel
theorem dX9_fault_1 : decode cX9_fault 1 = .ok (.getfield 76, 3) := by decide +kernel
theorem dX9_fault_4 : decode cX9_fault 4 = .ok (.ireturn, 1) := by decide +kernel
theorem dX9_beside_0 : decode cX9_beside 0 = .ok (.iload_n 2, 1) := by decide +kernel
theorem dX9_beside_1 : decode cX9_beside 1 = .ok (.ifCond .ne 10, 3) := by decide +kernel
theorem dX9_beside_4 : decode cX9_beside 4 = .ok (.iload_n 1, 1) := by decide +kernel
theorem dX9_beside_5 : decode cX9_beside 5 = .ok (.bipush 7, 2) := by decide +kernel
theorem dX9_beside_7 : decode cX9_beside 7 = .ok (.isub, 1) := by decide +kernel
theorem dX9_beside_8 : decode cX9_beside 8 = .ok (.goto 29, 3) := by decide +kernel
theorem dX9_beside_11 : decode cX9_beside 11 = .ok (.iload_n 2, 1) := by decide +kernel
theorem dX9_beside_12 : decode cX9_beside 12 = .ok (.iconst 1, 1) := by decide +kernel
theorem dX9_beside_13 : decode cX9_beside 13 = .ok (.if_icmp .ne 9, 3) := by decide +kernel
theorem dX9_beside_16 : decode cX9_beside 16 = .ok (.iload_n 1, 1) := by decide +kernel
theorem dX9_beside_17 : decode cX9_beside 17 = .ok (.iconst 1, 1) := by decide +kernel
theorem dX9_beside_18 : decode cX9_beside 18 = .ok (.isub, 1) := by decide +kernel
theorem dX9_beside_19 : decode cX9_beside 19 = .ok (.goto 18, 3) := by decide +kernel
theorem dX9_beside_22 : decode cX9_beside 22 = .ok (.iload_n 2, 1) := by decide +kernel
theorem dX9_beside_23 : decode cX9_beside 23 = .ok (.iconst 2, 1) := by decide +kernel
theorem dX9_beside_24 : decode cX9_beside 24 = .ok (.if_icmp .ne 9, 3) := by decide +kernel
theorem dX9_beside_27 : decode cX9_beside 27 = .ok (.iload_n 1, 1) := by decide +kernel
theorem dX9_beside_28 : decode cX9_beside 28 = .ok (.iconst 1, 1) := by decide +kernel
theorem dX9_beside_29 : decode cX9_beside 29 = .ok (.iadd, 1) := by decide +kernel
theorem dX9_beside_30 : decode cX9_beside 30 = .ok (.goto 7, 3) := by decide +kernel
theorem dX9_beside_33 : decode cX9_beside 33 = .ok (.iload_n 1, 1) := by decide +kernel
theorem dX9_beside_34 : decode cX9_beside 34 = .ok (.bipush 7, 2) := by decide +kernel
theorem dX9_beside_36 : decode cX9_beside 36 = .ok (.iadd, 1) := by decide +kernel
theorem dX9_beside_37 : decode cX9_beside 37 = .ok (.istore_n 3, 1) := by decide +kernel
theorem dX9_beside_38 : decode cX9_beside 38 = .ok (.iload_n 2, 1) := by decide +kernel
theorem dX9_beside_39 : decode cX9_beside 39 = .ok (.iconst 1, 1) := by decide +kernel
theorem dX9_beside_40 : decode cX9_beside 40 = .ok (.if_icmp .ne 18, 3) := by decide +kernel
theorem dX9_beside_43 : decode cX9_beside 43 = .ok (.iload_n 1, 1) := by decide +kernel
theorem dX9_beside_44 : decode cX9_beside 44 = .ok (.bipush 7, 2) := by decide +kernel
theorem dX9_beside_46 : decode cX9_beside 46 = .ok (.irem, 1) := by decide +kernel
theorem dX9_beside_47 : decode cX9_beside 47 = .ok (.ifCond .le 7, 3) := by decide +kernel
theorem dX9_beside_50 : decode cX9_beside 50 = .ok (.iconst 1, 1) := by decide +kernel
theorem dX9_beside_51 : decode cX9_beside 51 = .ok (.goto 26, 3) := by decide +kernel
theorem dX9_beside_54 : decode cX9_beside 54 = .ok (.iconst 0, 1) := by decide +kernel
theorem dX9_beside_55 : decode cX9_beside 55 = .ok (.goto 22, 3) := by decide +kernel
theorem dX9_beside_58 : decode cX9_beside 58 = .ok (.iload_n 2, 1) := by decide +kernel
theorem dX9_beside_59 : decode cX9_beside 59 = .ok (.iconst 2, 1) := by decide +kernel
theorem dX9_beside_60 : decode cX9_beside 60 = .ok (.if_icmp .ne 12, 3) := by decide +kernel
theorem dX9_beside_63 : decode cX9_beside 63 = .ok (.iload_n 1, 1) := by decide +kernel
theorem dX9_beside_64 : decode cX9_beside 64 = .ok (.bipush 7, 2) := by decide +kernel
theorem dX9_beside_66 : decode cX9_beside 66 = .ok (.irem, 1) := by decide +kernel
theorem dX9_beside_67 : decode cX9_beside 67 = .ok (.bipush 6, 2) := by decide +kernel
theorem dX9_beside_69 : decode cX9_beside 69 = .ok (.if_icmp .ge 7, 3) := by decide +kernel
theorem dX9_beside_72 : decode cX9_beside 72 = .ok (.iconst 1, 1) := by decide +kernel
theorem dX9_beside_73 : decode cX9_beside 73 = .ok (.goto 4, 3) := by decide +kernel
theorem dX9_beside_76 : decode cX9_beside 76 = .ok (.iconst 0, 1) := by decide +kernel
theorem dX9_beside_77 : decode cX9_beside 77 = .ok (.istore 4, 2) := by decide +kernel
theorem dX9_beside_79 : decode cX9_beside 79 = .ok (.iload 4, 2) := by decide +kernel
theorem dX9_beside_81 : decode cX9_beside 81 = .ok (.ifCond .eq 15, 3) := by decide +kernel
theorem dX9_beside_84 : decode cX9_beside 84 = .ok (.aload_n 0, 1) := by decide +kernel
theorem dX9_beside_85 : decode cX9_beside 85 = .ok (.iload_n 3, 1) := by decide +kernel
theorem dX9_beside_86 : decode cX9_beside 86 = .ok (.invokevirtual 116, 3) := by decide +kernel
theorem dX9_beside_89 : decode cX9_beside 89 = .ok (.ifCond .eq 7, 3) := by decide +kernel
theorem dX9_beside_92 : decode cX9_beside 92 = .ok (.iload_n 3, 1) := by decide +kernel
theorem dX9_beside_93 : decode cX9_beside 93 = .ok (.goto 4, 3) := by decide +kernel
theorem dX9_beside_96 : decode cX9_beside 96 = .ok (.iconst (-1), 1) := by decide +kernel
theorem dX9_beside_97 : decode cX9_beside 97 = .ok (.ireturn, 1) := by decide +kernel
theorem dX9_spreads_0 : decode cX9_spreads 0 = .ok (.iconst 0, 1) := by decide +kernel
theorem dX9_spreads_1 : decode cX9_spreads 1 = .ok (.istore_n 3, 1) := by decide +kernel
theorem dX9_spreads_2 : decode cX9_spreads 2 = .ok (.iload_n 3, 1) := by decide +kernel
theorem dX9_spreads_3 : decode cX9_spreads 3 = .ok (.bipush 49, 2) := by decide +kernel
theorem dX9_spreads_5 : decode cX9_spreads 5 = .ok (.if_icmp .ge 14, 3) := by decide +kernel
theorem dX9_spreads_8 : decode cX9_spreads 8 = .ok (.aload_n 2, 1) := by decide +kernel
theorem dX9_spreads_9 : decode cX9_spreads 9 = .ok (.iload_n 3, 1) := by decide +kernel
theorem dX9_spreads_10 : decode cX9_spreads 10 = .ok (.bipush 99, 2) := by decide +kernel
theorem dX9_spreads_12 : decode cX9_spreads 12 = .ok (.iastore, 1) := by decide +kernel
theorem dX9_spreads_13 : decode cX9_spreads 13 = .ok (.iinc 3 1, 3) := by decide +kernel
theorem dX9_spreads_16 : decode cX9_spreads 16 = .ok (.goto (-14), 3) := by decide +kernel
theorem dX9_spreads_19 : decode cX9_spreads 19 = .ok (.aload_n 0, 1) := by decide +kernel
theorem dX9_spreads_20 : decode cX9_spreads 20 = .ok (.iload_n 1, 1) := by decide +kernel
theorem dX9_spreads_21 : decode cX9_spreads 21 = .ok (.invokevirtual 116, 3) := by decide +kernel
theorem dX9_spreads_24 : decode cX9_spreads 24 = .ok (.ifCond .ne 4, 3) := by decide +kernel
theorem dX9_spreads_27 : decode cX9_spreads 27 = .ok (.return_, 1) := by decide +kernel
theorem dX9_spreads_28 : decode cX9_spreads 28 = .ok (.aload_n 2, 1) := by decide +kernel
theorem dX9_spreads_29 : decode cX9_spreads 29 = .ok (.iload_n 1, 1) := by decide +kernel
theorem dX9_spreads_30 : decode cX9_spreads 30 = .ok (.iconst 0, 1) := by decide +kernel
theorem dX9_spreads_31 : decode cX9_spreads 31 = .ok (.iastore, 1) := by decide +kernel
theorem dX9_spreads_32 : decode cX9_spreads 32 = .ok (.iconst 0, 1) := by decide +kernel
theorem dX9_spreads_33 : decode cX9_spreads 33 = .ok (.istore_n 3, 1) := by decide +kernel
theorem dX9_spreads_34 : decode cX9_spreads 34 = .ok (.iload_n 3, 1) := by decide +kernel
theorem dX9_spreads_35 : decode cX9_spreads 35 = .ok (.bipush 49, 2) := by decide +kernel
theorem dX9_spreads_37 : decode cX9_spreads 37 = .ok (.if_icmp .ge 79, 3) := by decide +kernel
theorem dX9_spreads_40 : decode cX9_spreads 40 = .ok (.iconst 0, 1) := by decide +kernel
theorem dX9_spreads_41 : decode cX9_spreads 41 = .ok (.istore 4, 2) := by decide +kernel
theorem dX9_spreads_43 : decode cX9_spreads 43 = .ok (.iload 4, 2) := by decide +kernel
theorem dX9_spreads_45 : decode cX9_spreads 45 = .ok (.bipush 49, 2) := by decide +kernel
theorem dX9_spreads_47 : decode cX9_spreads 47 = .ok (.if_icmp .ge 63, 3) := by decide +kernel
theorem dX9_spreads_50 : decode cX9_spreads 50 = .ok (.iconst 0, 1) := by decide +kernel
theorem dX9_spreads_51 : decode cX9_spreads 51 = .ok (.istore 5, 2) := by decide +kernel
theorem dX9_spreads_53 : decode cX9_spreads 53 = .ok (.iload 5, 2) := by decide +kernel
theorem dX9_spreads_55 : decode cX9_spreads 55 = .ok (.iconst 4, 1) := by decide +kernel
theorem dX9_spreads_56 : decode cX9_spreads 56 = .ok (.if_icmp .ge 48, 3) := by decide +kernel
theorem dX9_spreads_59 : decode cX9_spreads 59 = .ok (.aload_n 2, 1) := by decide +kernel
theorem dX9_spreads_60 : decode cX9_spreads 60 = .ok (.iload 4, 2) := by decide +kernel
theorem dX9_spreads_62 : decode cX9_spreads 62 = .ok (.iaload, 1) := by decide +kernel
theorem dX9_spreads_63 : decode cX9_spreads 63 = .ok (.iload_n 3, 1) := by decide +kernel
theorem dX9_spreads_64 : decode cX9_spreads 64 = .ok (.if_icmp .ne 40, 3) := by decide +kernel
theorem dX9_spreads_67 : decode cX9_spreads 67 = .ok (.aload_n 0, 1) := by decide +kernel
theorem dX9_spreads_68 : decode cX9_spreads 68 = .ok (.iload 4, 2) := by decide +kernel
theorem dX9_spreads_70 : decode cX9_spreads 70 = .ok (.iload 5, 2) := by decide +kernel
theorem dX9_spreads_72 : decode cX9_spreads 72 = .ok (.invokevirtual 198, 3) := by decide +kernel
theorem dX9_spreads_75 : decode cX9_spreads 75 = .ok (.istore 6, 2) := by decide +kernel
theorem dX9_spreads_77 : decode cX9_spreads 77 = .ok (.iload 6, 2) := by decide +kernel
theorem dX9_spreads_79 : decode cX9_spreads 79 = .ok (.ifCond .lt 19, 3) := by decide +kernel
theorem dX9_spreads_82 : decode cX9_spreads 82 = .ok (.aload_n 2, 1) := by decide +kernel
theorem dX9_spreads_83 : decode cX9_spreads 83 = .ok (.iload 6, 2) := by decide +kernel
theorem dX9_spreads_85 : decode cX9_spreads 85 = .ok (.iaload, 1) := by decide +kernel
theorem dX9_spreads_86 : decode cX9_spreads 86 = .ok (.bipush 99, 2) := by decide +kernel
theorem dX9_spreads_88 : decode cX9_spreads 88 = .ok (.if_icmp .ne 10, 3) := by decide +kernel
theorem dX9_spreads_91 : decode cX9_spreads 91 = .ok (.aload_n 2, 1) := by decide +kernel
theorem dX9_spreads_92 : decode cX9_spreads 92 = .ok (.iload 6, 2) := by decide +kernel
theorem dX9_spreads_94 : decode cX9_spreads 94 = .ok (.iload_n 3, 1) := by decide +kernel
theorem dX9_spreads_95 : decode cX9_spreads 95 = .ok (.iconst 1, 1) := by decide +kernel
theorem dX9_spreads_96 : decode cX9_spreads 96 = .ok (.iadd, 1) := by decide +kernel
theorem dX9_spreads_97 : decode cX9_spreads 97 = .ok (.iastore, 1) := by decide +kernel
theorem dX9_spreads_98 : decode cX9_spreads 98 = .ok (.iinc 5 1, 3) := by decide +kernel
theorem dX9_spreads_101 : decode cX9_spreads 101 = .ok (.goto (-48), 3) := by decide +kernel
theorem dX9_spreads_104 : decode cX9_spreads 104 = .ok (.iinc 4 1, 3) := by decide +kernel
theorem dX9_spreads_107 : decode cX9_spreads 107 = .ok (.goto (-64), 3) := by decide +kernel
theorem dX9_spreads_110 : decode cX9_spreads 110 = .ok (.iinc 3 1, 3) := by decide +kernel
theorem dX9_spreads_113 : decode cX9_spreads 113 = .ok (.goto (-79), 3) := by decide +kernel
theorem dX9_spreads_116 : decode cX9_spreads 116 = .ok (.return_, 1) := by decide +kernel
theorem dX9_farOf_0 : decode cX9_farOf 0 = .ok (.aload_n 0, 1) := by decide +kernel
theorem dX9_farOf_1 : decode cX9_farOf 1 = .ok (.getfield 123, 3) := by decide +kernel
theorem dX9_farOf_4 : decode cX9_farOf 4 = .ok (.ifCond .ne 13, 3) := by decide +kernel
theorem dX9_farOf_7 : decode cX9_farOf 7 = .ok (.aload_n 0, 1) := by decide +kernel
theorem dX9_farOf_8 : decode cX9_farOf 8 = .ok (.bipush 24, 2) := by decide +kernel
theorem dX9_farOf_10 : decode cX9_farOf 10 = .ok (.aload_n 0, 1) := by decide +kernel
theorem dX9_farOf_11 : decode cX9_farOf 11 = .ok (.getfield 60, 3) := by decide +kernel
theorem dX9_farOf_14 : decode cX9_farOf 14 = .ok (.invokevirtual 202, 3) := by decide +kernel
theorem dX9_farOf_17 : decode cX9_farOf 17 = .ok (.aload_n 0, 1) := by decide +kernel
theorem dX9_farOf_18 : decode cX9_farOf 18 = .ok (.iconst 1, 1) := by decide +kernel
theorem dX9_farOf_19 : decode cX9_farOf 19 = .ok (.putfield 123, 3) := by decide +kernel
theorem dX9_farOf_22 : decode cX9_farOf 22 = .ok (.aload_n 0, 1) := by decide +kernel
theorem dX9_farOf_23 : decode cX9_farOf 23 = .ok (.getfield 60, 3) := by decide +kernel
theorem dX9_farOf_26 : decode cX9_farOf 26 = .ok (.iload_n 1, 1) := by decide +kernel
theorem dX9_farOf_27 : decode cX9_farOf 27 = .ok (.iaload, 1) := by decide +kernel
theorem dX9_farOf_28 : decode cX9_farOf 28 = .ok (.ireturn, 1) := by decide +kernel
theorem dX9_far_0 : decode cX9_far 0 = .ok (.iload_n 1, 1) := by decide +kernel
theorem dX9_far_1 : decode cX9_far 1 = .ok (.invokestatic 110, 3) := by decide +kernel
theorem dX9_far_4 : decode cX9_far 4 = .ok (.ifCond .eq 11, 3) := by decide +kernel
theorem dX9_far_7 : decode cX9_far 7 = .ok (.aload_n 0, 1) := by decide +kernel
theorem dX9_far_8 : decode cX9_far 8 = .ok (.iload_n 1, 1) := by decide +kernel
theorem dX9_far_9 : decode cX9_far 9 = .ok (.invokevirtual 206, 3) := by decide +kernel
theorem dX9_far_12 : decode cX9_far 12 = .ok (.goto 9, 3) := by decide +kernel
theorem dX9_far_15 : decode cX9_far 15 = .ok (.aload_n 0, 1) := by decide +kernel
theorem dX9_far_16 : decode cX9_far 16 = .ok (.bipush (-6), 2) := by decide +kernel
theorem dX9_far_18 : decode cX9_far 18 = .ok (.invokevirtual 79, 3) := by decide +kernel
theorem dX9_far_21 : decode cX9_far 21 = .ok (.ireturn, 1) := by decide +kernel
theorem dX9_flees_0 : decode cX9_flees 0 = .ok (.aload_n 0, 1) := by decide +kernel
theorem dX9_flees_1 : decode cX9_flees 1 = .ok (.getfield 7, 3) := by decide +kernel
theorem dX9_flees_4 : decode cX9_flees 4 = .ok (.iload_n 1, 1) := by decide +kernel
theorem dX9_flees_5 : decode cX9_flees 5 = .ok (.iaload, 1) := by decide +kernel
theorem dX9_flees_6 : decode cX9_flees 6 = .ok (.tableswitch 64 1 6 #[40, 64, 40, 38, 64, 40], 38) := by decide +kernel
theorem dX9_flees_44 : decode cX9_flees 44 = .ok (.iconst 0, 1) := by decide +kernel
theorem dX9_flees_45 : decode cX9_flees 45 = .ok (.ireturn, 1) := by decide +kernel
theorem dX9_flees_46 : decode cX9_flees 46 = .ok (.aload_n 0, 1) := by decide +kernel
theorem dX9_flees_47 : decode cX9_flees 47 = .ok (.getfield 16, 3) := by decide +kernel
theorem dX9_flees_50 : decode cX9_flees 50 = .ok (.iload_n 1, 1) := by decide +kernel
theorem dX9_flees_51 : decode cX9_flees 51 = .ok (.iaload, 1) := by decide +kernel
theorem dX9_flees_52 : decode cX9_flees 52 = .ok (.bipush 10, 2) := by decide +kernel
theorem dX9_flees_54 : decode cX9_flees 54 = .ok (.aload_n 0, 1) := by decide +kernel
theorem dX9_flees_55 : decode cX9_flees 55 = .ok (.getfield 13, 3) := by decide +kernel
theorem dX9_flees_58 : decode cX9_flees 58 = .ok (.iload_n 1, 1) := by decide +kernel
theorem dX9_flees_59 : decode cX9_flees 59 = .ok (.iaload, 1) := by decide +kernel
theorem dX9_flees_60 : decode cX9_flees 60 = .ok (.iadd, 1) := by decide +kernel
theorem dX9_flees_61 : decode cX9_flees 61 = .ok (.if_icmp .ge 7, 3) := by decide +kernel
theorem dX9_flees_64 : decode cX9_flees 64 = .ok (.iconst 1, 1) := by decide +kernel
theorem dX9_flees_65 : decode cX9_flees 65 = .ok (.goto 4, 3) := by decide +kernel
theorem dX9_flees_68 : decode cX9_flees 68 = .ok (.iconst 0, 1) := by decide +kernel
theorem dX9_flees_69 : decode cX9_flees 69 = .ok (.ireturn, 1) := by decide +kernel
theorem dX9_flees_70 : decode cX9_flees 70 = .ok (.aload_n 0, 1) := by decide +kernel
theorem dX9_flees_71 : decode cX9_flees 71 = .ok (.getfield 16, 3) := by decide +kernel
theorem dX9_flees_74 : decode cX9_flees 74 = .ok (.iload_n 1, 1) := by decide +kernel
theorem dX9_flees_75 : decode cX9_flees 75 = .ok (.iaload, 1) := by decide +kernel
theorem dX9_flees_76 : decode cX9_flees 76 = .ok (.bipush 10, 2) := by decide +kernel
theorem dX9_flees_78 : decode cX9_flees 78 = .ok (.if_icmp .ge 7, 3) := by decide +kernel
theorem dX9_flees_81 : decode cX9_flees 81 = .ok (.iconst 1, 1) := by decide +kernel
theorem dX9_flees_82 : decode cX9_flees 82 = .ok (.goto 4, 3) := by decide +kernel
theorem dX9_flees_85 : decode cX9_flees 85 = .ok (.iconst 0, 1) := by decide +kernel
theorem dX9_flees_86 : decode cX9_flees 86 = .ok (.ireturn, 1) := by decide +kernel
theorem dX9_takesStep_0 : decode cX9_takesStep 0 = .ok (.aload_n 0, 1) := by decide +kernel
theorem dX9_takesStep_1 : decode cX9_takesStep 1 = .ok (.getfield 22, 3) := by decide +kernel
theorem dX9_takesStep_4 : decode cX9_takesStep 4 = .ok (.iload_n 1, 1) := by decide +kernel
theorem dX9_takesStep_5 : decode cX9_takesStep 5 = .ok (.iaload, 1) := by decide +kernel
theorem dX9_takesStep_6 : decode cX9_takesStep 6 = .ok (.istore_n 2, 1) := by decide +kernel
theorem dX9_takesStep_7 : decode cX9_takesStep 7 = .ok (.aload_n 0, 1) := by decide +kernel
theorem dX9_takesStep_8 : decode cX9_takesStep 8 = .ok (.iload_n 1, 1) := by decide +kernel
theorem dX9_takesStep_9 : decode cX9_takesStep 9 = .ok (.invokevirtual 134, 3) := by decide +kernel
theorem dX9_takesStep_12 : decode cX9_takesStep 12 = .ok (.istore_n 3, 1) := by decide +kernel
theorem dX9_takesStep_13 : decode cX9_takesStep 13 = .ok (.iconst 0, 1) := by decide +kernel
theorem dX9_takesStep_14 : decode cX9_takesStep 14 = .ok (.istore 4, 2) := by decide +kernel
theorem dX9_takesStep_16 : decode cX9_takesStep 16 = .ok (.iload 4, 2) := by decide +kernel
theorem dX9_takesStep_18 : decode cX9_takesStep 18 = .ok (.iconst 4, 1) := by decide +kernel
theorem dX9_takesStep_19 : decode cX9_takesStep 19 = .ok (.if_icmp .ge 80, 3) := by decide +kernel
theorem dX9_takesStep_22 : decode cX9_takesStep 22 = .ok (.aload_n 0, 1) := by decide +kernel
theorem dX9_takesStep_23 : decode cX9_takesStep 23 = .ok (.aload_n 0, 1) := by decide +kernel
theorem dX9_takesStep_24 : decode cX9_takesStep 24 = .ok (.getfield 22, 3) := by decide +kernel
theorem dX9_takesStep_27 : decode cX9_takesStep 27 = .ok (.iload_n 1, 1) := by decide +kernel
theorem dX9_takesStep_28 : decode cX9_takesStep 28 = .ok (.iaload, 1) := by decide +kernel
theorem dX9_takesStep_29 : decode cX9_takesStep 29 = .ok (.iload 4, 2) := by decide +kernel
theorem dX9_takesStep_31 : decode cX9_takesStep 31 = .ok (.invokevirtual 198, 3) := by decide +kernel
theorem dX9_takesStep_34 : decode cX9_takesStep 34 = .ok (.istore 5, 2) := by decide +kernel
theorem dX9_takesStep_36 : decode cX9_takesStep 36 = .ok (.iload 5, 2) := by decide +kernel
theorem dX9_takesStep_38 : decode cX9_takesStep 38 = .ok (.ifCond .lt 55, 3) := by decide +kernel
theorem dX9_takesStep_41 : decode cX9_takesStep 41 = .ok (.aload_n 0, 1) := by decide +kernel
theorem dX9_takesStep_42 : decode cX9_takesStep 42 = .ok (.iload 5, 2) := by decide +kernel
theorem dX9_takesStep_44 : decode cX9_takesStep 44 = .ok (.invokevirtual 206, 3) := by decide +kernel
theorem dX9_takesStep_47 : decode cX9_takesStep 47 = .ok (.bipush 99, 2) := by decide +kernel
theorem dX9_takesStep_49 : decode cX9_takesStep 49 = .ok (.if_icmp .ne 6, 3) := by decide +kernel
theorem dX9_takesStep_52 : decode cX9_takesStep 52 = .ok (.goto 41, 3) := by decide +kernel
theorem dX9_takesStep_55 : decode cX9_takesStep 55 = .ok (.iload_n 3, 1) := by decide +kernel
theorem dX9_takesStep_56 : decode cX9_takesStep 56 = .ok (.ifCond .eq 20, 3) := by decide +kernel
theorem dX9_takesStep_59 : decode cX9_takesStep 59 = .ok (.aload_n 0, 1) := by decide +kernel
theorem dX9_takesStep_60 : decode cX9_takesStep 60 = .ok (.iload 5, 2) := by decide +kernel
theorem dX9_takesStep_62 : decode cX9_takesStep 62 = .ok (.invokevirtual 206, 3) := by decide +kernel
theorem dX9_takesStep_65 : decode cX9_takesStep 65 = .ok (.aload_n 0, 1) := by decide +kernel
theorem dX9_takesStep_66 : decode cX9_takesStep 66 = .ok (.iload_n 2, 1) := by decide +kernel
theorem dX9_takesStep_67 : decode cX9_takesStep 67 = .ok (.invokevirtual 206, 3) := by decide +kernel
theorem dX9_takesStep_70 : decode cX9_takesStep 70 = .ok (.if_icmp .le 23, 3) := by decide +kernel
theorem dX9_takesStep_73 : decode cX9_takesStep 73 = .ok (.goto 17, 3) := by decide +kernel
theorem dX9_takesStep_76 : decode cX9_takesStep 76 = .ok (.aload_n 0, 1) := by decide +kernel
theorem dX9_takesStep_77 : decode cX9_takesStep 77 = .ok (.iload 5, 2) := by decide +kernel
theorem dX9_takesStep_79 : decode cX9_takesStep 79 = .ok (.invokevirtual 206, 3) := by decide +kernel
theorem dX9_takesStep_82 : decode cX9_takesStep 82 = .ok (.aload_n 0, 1) := by decide +kernel
theorem dX9_takesStep_83 : decode cX9_takesStep 83 = .ok (.iload_n 2, 1) := by decide +kernel
theorem dX9_takesStep_84 : decode cX9_takesStep 84 = .ok (.invokevirtual 206, 3) := by decide +kernel
theorem dX9_takesStep_87 : decode cX9_takesStep 87 = .ok (.if_icmp .ge 6, 3) := by decide +kernel
theorem dX9_takesStep_90 : decode cX9_takesStep 90 = .ok (.iload 5, 2) := by decide +kernel
theorem dX9_takesStep_92 : decode cX9_takesStep 92 = .ok (.istore_n 2, 1) := by decide +kernel
theorem dX9_takesStep_93 : decode cX9_takesStep 93 = .ok (.iinc 4 1, 3) := by decide +kernel
theorem dX9_takesStep_96 : decode cX9_takesStep 96 = .ok (.goto (-80), 3) := by decide +kernel
theorem dX9_takesStep_99 : decode cX9_takesStep 99 = .ok (.aload_n 0, 1) := by decide +kernel
theorem dX9_takesStep_100 : decode cX9_takesStep 100 = .ok (.getfield 22, 3) := by decide +kernel
theorem dX9_takesStep_103 : decode cX9_takesStep 103 = .ok (.iload_n 1, 1) := by decide +kernel
theorem dX9_takesStep_104 : decode cX9_takesStep 104 = .ok (.iload_n 2, 1) := by decide +kernel
theorem dX9_takesStep_105 : decode cX9_takesStep 105 = .ok (.iastore, 1) := by decide +kernel
theorem dX9_takesStep_106 : decode cX9_takesStep 106 = .ok (.return_, 1) := by decide +kernel
theorem dX9_pace_0 : decode cX9_pace 0 = .ok (.aload_n 0, 1) := by decide +kernel
theorem dX9_pace_1 : decode cX9_pace 1 = .ok (.getfield 7, 3) := by decide +kernel
theorem dX9_pace_4 : decode cX9_pace 4 = .ok (.iload_n 1, 1) := by decide +kernel
theorem dX9_pace_5 : decode cX9_pace 5 = .ok (.iaload, 1) := by decide +kernel
theorem dX9_pace_6 : decode cX9_pace 6 = .ok (.tableswitch 87 2 6 #[34, 87, 87, 45, 78], 34) := by decide +kernel
theorem dX9_pace_40 : decode cX9_pace 40 = .ok (.aload_n 0, 1) := by decide +kernel
theorem dX9_pace_41 : decode cX9_pace 41 = .ok (.getfield 19, 3) := by decide +kernel
theorem dX9_pace_44 : decode cX9_pace 44 = .ok (.iload_n 1, 1) := by decide +kernel
theorem dX9_pace_45 : decode cX9_pace 45 = .ok (.iaload, 1) := by decide +kernel
theorem dX9_pace_46 : decode cX9_pace 46 = .ok (.iconst 1, 1) := by decide +kernel
theorem dX9_pace_47 : decode cX9_pace 47 = .ok (.iadd, 1) := by decide +kernel
theorem dX9_pace_48 : decode cX9_pace 48 = .ok (.iconst 2, 1) := by decide +kernel
theorem dX9_pace_49 : decode cX9_pace 49 = .ok (.idiv, 1) := by decide +kernel
theorem dX9_pace_50 : decode cX9_pace 50 = .ok (.ireturn, 1) := by decide +kernel
theorem dX9_pace_51 : decode cX9_pace 51 = .ok (.aload_n 0, 1) := by decide +kernel
theorem dX9_pace_52 : decode cX9_pace 52 = .ok (.getfield 32, 3) := by decide +kernel
theorem dX9_pace_55 : decode cX9_pace 55 = .ok (.iconst 2, 1) := by decide +kernel
theorem dX9_pace_56 : decode cX9_pace 56 = .ok (.iaload, 1) := by decide +kernel
theorem dX9_pace_57 : decode cX9_pace 57 = .ok (.aload_n 0, 1) := by decide +kernel
theorem dX9_pace_58 : decode cX9_pace 58 = .ok (.getfield 13, 3) := by decide +kernel
theorem dX9_pace_61 : decode cX9_pace 61 = .ok (.iload_n 1, 1) := by decide +kernel
theorem dX9_pace_62 : decode cX9_pace 62 = .ok (.iaload, 1) := by decide +kernel
theorem dX9_pace_63 : decode cX9_pace 63 = .ok (.iconst 2, 1) := by decide +kernel
theorem dX9_pace_64 : decode cX9_pace 64 = .ok (.iadd, 1) := by decide +kernel
theorem dX9_pace_65 : decode cX9_pace 65 = .ok (.irem, 1) := by decide +kernel
theorem dX9_pace_66 : decode cX9_pace 66 = .ok (.ifCond .ne 7, 3) := by decide +kernel
theorem dX9_pace_69 : decode cX9_pace 69 = .ok (.iconst 0, 1) := by decide +kernel
theorem dX9_pace_70 : decode cX9_pace 70 = .ok (.goto 13, 3) := by decide +kernel
theorem dX9_pace_73 : decode cX9_pace 73 = .ok (.aload_n 0, 1) := by decide +kernel
theorem dX9_pace_74 : decode cX9_pace 74 = .ok (.getfield 19, 3) := by decide +kernel
theorem dX9_pace_77 : decode cX9_pace 77 = .ok (.iload_n 1, 1) := by decide +kernel
theorem dX9_pace_78 : decode cX9_pace 78 = .ok (.iaload, 1) := by decide +kernel
theorem dX9_pace_79 : decode cX9_pace 79 = .ok (.iconst 1, 1) := by decide +kernel
theorem dX9_pace_80 : decode cX9_pace 80 = .ok (.iadd, 1) := by decide +kernel
theorem dX9_pace_81 : decode cX9_pace 81 = .ok (.iconst 2, 1) := by decide +kernel
theorem dX9_pace_82 : decode cX9_pace 82 = .ok (.idiv, 1) := by decide +kernel
theorem dX9_pace_83 : decode cX9_pace 83 = .ok (.ireturn, 1) := by decide +kernel
theorem dX9_pace_84 : decode cX9_pace 84 = .ok (.aload_n 0, 1) := by decide +kernel
theorem dX9_pace_85 : decode cX9_pace 85 = .ok (.getfield 19, 3) := by decide +kernel
theorem dX9_pace_88 : decode cX9_pace 88 = .ok (.iload_n 1, 1) := by decide +kernel
theorem dX9_pace_89 : decode cX9_pace 89 = .ok (.iaload, 1) := by decide +kernel
theorem dX9_pace_90 : decode cX9_pace 90 = .ok (.iconst 1, 1) := by decide +kernel
theorem dX9_pace_91 : decode cX9_pace 91 = .ok (.iadd, 1) := by decide +kernel
theorem dX9_pace_92 : decode cX9_pace 92 = .ok (.ireturn, 1) := by decide +kernel
theorem dX9_pace_93 : decode cX9_pace 93 = .ok (.aload_n 0, 1) := by decide +kernel
theorem dX9_pace_94 : decode cX9_pace 94 = .ok (.getfield 19, 3) := by decide +kernel
theorem dX9_pace_97 : decode cX9_pace 97 = .ok (.iload_n 1, 1) := by decide +kernel
theorem dX9_pace_98 : decode cX9_pace 98 = .ok (.iaload, 1) := by decide +kernel
theorem dX9_pace_99 : decode cX9_pace 99 = .ok (.ireturn, 1) := by decide +kernel
theorem dX9_goesYard_0 : decode cX9_goesYard 0 = .ok (.iconst 0, 1) := by decide +kernel
theorem dX9_goesYard_1 : decode cX9_goesYard 1 = .ok (.istore_n 1, 1) := by decide +kernel
theorem dX9_goesYard_2 : decode cX9_goesYard 2 = .ok (.iload_n 1, 1) := by decide +kernel
theorem dX9_goesYard_3 : decode cX9_goesYard 3 = .ok (.aload_n 0, 1) := by decide +kernel
theorem dX9_goesYard_4 : decode cX9_goesYard 4 = .ok (.getfield 83, 3) := by decide +kernel
theorem dX9_goesYard_7 : decode cX9_goesYard 7 = .ok (.if_icmp .ge 33, 3) := by decide +kernel
theorem dX9_goesYard_10 : decode cX9_goesYard 10 = .ok (.aload_n 0, 1) := by decide +kernel
theorem dX9_goesYard_11 : decode cX9_goesYard 11 = .ok (.iload_n 1, 1) := by decide +kernel
theorem dX9_goesYard_12 : decode cX9_goesYard 12 = .ok (.invokevirtual 209, 3) := by decide +kernel
theorem dX9_goesYard_15 : decode cX9_goesYard 15 = .ok (.istore_n 2, 1) := by decide +kernel
theorem dX9_goesYard_16 : decode cX9_goesYard 16 = .ok (.iconst 0, 1) := by decide +kernel
theorem dX9_goesYard_17 : decode cX9_goesYard 17 = .ok (.istore_n 3, 1) := by decide +kernel
theorem dX9_goesYard_18 : decode cX9_goesYard 18 = .ok (.iload_n 3, 1) := by decide +kernel
theorem dX9_goesYard_19 : decode cX9_goesYard 19 = .ok (.iload_n 2, 1) := by decide +kernel
theorem dX9_goesYard_20 : decode cX9_goesYard 20 = .ok (.if_icmp .ge 14, 3) := by decide +kernel
theorem dX9_goesYard_23 : decode cX9_goesYard 23 = .ok (.aload_n 0, 1) := by decide +kernel
theorem dX9_goesYard_24 : decode cX9_goesYard 24 = .ok (.iload_n 1, 1) := by decide +kernel
theorem dX9_goesYard_25 : decode cX9_goesYard 25 = .ok (.invokevirtual 212, 3) := by decide +kernel
theorem dX9_goesYard_28 : decode cX9_goesYard 28 = .ok (.iinc 3 1, 3) := by decide +kernel
theorem dX9_goesYard_31 : decode cX9_goesYard 31 = .ok (.goto (-13), 3) := by decide +kernel
theorem dX9_goesYard_34 : decode cX9_goesYard 34 = .ok (.iinc 1 1, 3) := by decide +kernel
theorem dX9_goesYard_37 : decode cX9_goesYard 37 = .ok (.goto (-35), 3) := by decide +kernel
theorem dX9_goesYard_40 : decode cX9_goesYard 40 = .ok (.aload_n 0, 1) := by decide +kernel
theorem dX9_goesYard_41 : decode cX9_goesYard 41 = .ok (.getfield 32, 3) := by decide +kernel
theorem dX9_goesYard_44 : decode cX9_goesYard 44 = .ok (.iconst 2, 1) := by decide +kernel
theorem dX9_goesYard_45 : decode cX9_goesYard 45 = .ok (.dup2, 1) := by decide +kernel
theorem dX9_goesYard_46 : decode cX9_goesYard 46 = .ok (.iaload, 1) := by decide +kernel
theorem dX9_goesYard_47 : decode cX9_goesYard 47 = .ok (.iconst 1, 1) := by decide +kernel
theorem dX9_goesYard_48 : decode cX9_goesYard 48 = .ok (.iadd, 1) := by decide +kernel
theorem dX9_goesYard_49 : decode cX9_goesYard 49 = .ok (.iastore, 1) := by decide +kernel
theorem dX9_goesYard_50 : decode cX9_goesYard 50 = .ok (.return_, 1) := by decide +kernel
theorem dX9_goesOn_0 : decode cX9_goesOn 0 = .ok (.iconst 0, 1) := by decide +kernel
theorem dX9_goesOn_1 : decode cX9_goesOn 1 = .ok (.istore_n 2, 1) := by decide +kernel
theorem dX9_goesOn_2 : decode cX9_goesOn 2 = .ok (.iload_n 2, 1) := by decide +kernel
theorem dX9_goesOn_3 : decode cX9_goesOn 3 = .ok (.iload_n 1, 1) := by decide +kernel
theorem dX9_goesOn_4 : decode cX9_goesOn 4 = .ok (.if_icmp .ge 13, 3) := by decide +kernel
theorem dX9_goesOn_7 : decode cX9_goesOn 7 = .ok (.aload_n 0, 1) := by decide +kernel
theorem dX9_goesOn_8 : decode cX9_goesOn 8 = .ok (.invokevirtual 216, 3) := by decide +kernel
theorem dX9_goesOn_11 : decode cX9_goesOn 11 = .ok (.iinc 2 1, 3) := by decide +kernel
theorem dX9_goesOn_14 : decode cX9_goesOn 14 = .ok (.goto (-12), 3) := by decide +kernel
theorem dX9_goesOn_17 : decode cX9_goesOn 17 = .ok (.return_, 1) := by decide +kernel
theorem dX9_smell_0 : decode cX9_smell 0 = .ok (.aload_n 0, 1) := by decide +kernel
theorem dX9_smell_1 : decode cX9_smell 1 = .ok (.getfield 7, 3) := by decide +kernel
theorem dX9_smell_4 : decode cX9_smell 4 = .ok (.iload_n 1, 1) := by decide +kernel
theorem dX9_smell_5 : decode cX9_smell 5 = .ok (.iaload, 1) := by decide +kernel
theorem dX9_smell_6 : decode cX9_smell 6 = .ok (.tableswitch 73 2 6 #[34, 43, 73, 34, 57], 34) := by decide +kernel
theorem dX9_smell_40 : decode cX9_smell 40 = .ok (.aload_n 0, 1) := by decide +kernel
theorem dX9_smell_41 : decode cX9_smell 41 = .ok (.getfield 16, 3) := by decide +kernel
theorem dX9_smell_44 : decode cX9_smell 44 = .ok (.iload_n 1, 1) := by decide +kernel
theorem dX9_smell_45 : decode cX9_smell 45 = .ok (.iaload, 1) := by decide +kernel
theorem dX9_smell_46 : decode cX9_smell 46 = .ok (.iconst 2, 1) := by decide +kernel
theorem dX9_smell_47 : decode cX9_smell 47 = .ok (.idiv, 1) := by decide +kernel
theorem dX9_smell_48 : decode cX9_smell 48 = .ok (.ireturn, 1) := by decide +kernel
theorem dX9_smell_49 : decode cX9_smell 49 = .ok (.aload_n 0, 1) := by decide +kernel
theorem dX9_smell_50 : decode cX9_smell 50 = .ok (.getfield 16, 3) := by decide +kernel
theorem dX9_smell_53 : decode cX9_smell 53 = .ok (.iload_n 1, 1) := by decide +kernel
theorem dX9_smell_54 : decode cX9_smell 54 = .ok (.iaload, 1) := by decide +kernel
theorem dX9_smell_55 : decode cX9_smell 55 = .ok (.aload_n 0, 1) := by decide +kernel
theorem dX9_smell_56 : decode cX9_smell 56 = .ok (.getfield 13, 3) := by decide +kernel
theorem dX9_smell_59 : decode cX9_smell 59 = .ok (.iload_n 1, 1) := by decide +kernel
theorem dX9_smell_60 : decode cX9_smell 60 = .ok (.iaload, 1) := by decide +kernel
theorem dX9_smell_61 : decode cX9_smell 61 = .ok (.iadd, 1) := by decide +kernel
theorem dX9_smell_62 : decode cX9_smell 62 = .ok (.ireturn, 1) := by decide +kernel
theorem dX9_smell_63 : decode cX9_smell 63 = .ok (.aload_n 0, 1) := by decide +kernel
theorem dX9_smell_64 : decode cX9_smell 64 = .ok (.getfield 16, 3) := by decide +kernel
theorem dX9_smell_67 : decode cX9_smell 67 = .ok (.iload_n 1, 1) := by decide +kernel
theorem dX9_smell_68 : decode cX9_smell 68 = .ok (.iaload, 1) := by decide +kernel
theorem dX9_smell_69 : decode cX9_smell 69 = .ok (.aload_n 0, 1) := by decide +kernel
theorem dX9_smell_70 : decode cX9_smell 70 = .ok (.getfield 13, 3) := by decide +kernel
theorem dX9_smell_73 : decode cX9_smell 73 = .ok (.iload_n 1, 1) := by decide +kernel
theorem dX9_smell_74 : decode cX9_smell 74 = .ok (.iaload, 1) := by decide +kernel
theorem dX9_smell_75 : decode cX9_smell 75 = .ok (.iadd, 1) := by decide +kernel
theorem dX9_smell_76 : decode cX9_smell 76 = .ok (.iconst 3, 1) := by decide +kernel
theorem dX9_smell_77 : decode cX9_smell 77 = .ok (.iadd, 1) := by decide +kernel
theorem dX9_smell_78 : decode cX9_smell 78 = .ok (.ireturn, 1) := by decide +kernel
theorem dX9_smell_79 : decode cX9_smell 79 = .ok (.aload_n 0, 1) := by decide +kernel
theorem dX9_smell_80 : decode cX9_smell 80 = .ok (.getfield 16, 3) := by decide +kernel
theorem dX9_smell_83 : decode cX9_smell 83 = .ok (.iload_n 1, 1) := by decide +kernel
theorem dX9_smell_84 : decode cX9_smell 84 = .ok (.iaload, 1) := by decide +kernel
theorem dX9_smell_85 : decode cX9_smell 85 = .ok (.ireturn, 1) := by decide +kernel
theorem dX9_isOut_0 : decode cX9_isOut 0 = .ok (.aload_n 0, 1) := by decide +kernel
theorem dX9_isOut_1 : decode cX9_isOut 1 = .ok (.iload_n 1, 1) := by decide +kernel
theorem dX9_isOut_2 : decode cX9_isOut 2 = .ok (.invokevirtual 107, 3) := by decide +kernel
theorem dX9_isOut_5 : decode cX9_isOut 5 = .ok (.aload_n 0, 1) := by decide +kernel
theorem dX9_isOut_6 : decode cX9_isOut 6 = .ok (.getfield 32, 3) := by decide +kernel
theorem dX9_isOut_9 : decode cX9_isOut 9 = .ok (.iconst 1, 1) := by decide +kernel
theorem dX9_isOut_10 : decode cX9_isOut 10 = .ok (.iaload, 1) := by decide +kernel
theorem dX9_isOut_11 : decode cX9_isOut 11 = .ok (.if_icmp .le 7, 3) := by decide +kernel
theorem dX9_isOut_14 : decode cX9_isOut 14 = .ok (.iconst 1, 1) := by decide +kernel
theorem dX9_isOut_15 : decode cX9_isOut 15 = .ok (.goto 4, 3) := by decide +kernel
theorem dX9_isOut_18 : decode cX9_isOut 18 = .ok (.iconst 0, 1) := by decide +kernel
theorem dX9_isOut_19 : decode cX9_isOut 19 = .ok (.ireturn, 1) := by decide +kernel
theorem dX9_furthest_0 : decode cX9_furthest 0 = .ok (.iconst (-1), 1) := by decide +kernel
theorem dX9_furthest_1 : decode cX9_furthest 1 = .ok (.istore_n 2, 1) := by decide +kernel
theorem dX9_furthest_2 : decode cX9_furthest 2 = .ok (.iconst 0, 1) := by decide +kernel
theorem dX9_furthest_3 : decode cX9_furthest 3 = .ok (.istore_n 3, 1) := by decide +kernel
theorem dX9_furthest_4 : decode cX9_furthest 4 = .ok (.iload_n 3, 1) := by decide +kernel
theorem dX9_furthest_5 : decode cX9_furthest 5 = .ok (.aload_n 0, 1) := by decide +kernel
theorem dX9_furthest_6 : decode cX9_furthest 6 = .ok (.getfield 83, 3) := by decide +kernel
theorem dX9_furthest_9 : decode cX9_furthest 9 = .ok (.if_icmp .ge 48, 3) := by decide +kernel
theorem dX9_furthest_12 : decode cX9_furthest 12 = .ok (.iload_n 1, 1) := by decide +kernel
theorem dX9_furthest_13 : decode cX9_furthest 13 = .ok (.iload_n 3, 1) := by decide +kernel
theorem dX9_furthest_14 : decode cX9_furthest 14 = .ok (.ishr, 1) := by decide +kernel
theorem dX9_furthest_15 : decode cX9_furthest 15 = .ok (.iconst 1, 1) := by decide +kernel
theorem dX9_furthest_16 : decode cX9_furthest 16 = .ok (.iand, 1) := by decide +kernel
theorem dX9_furthest_17 : decode cX9_furthest 17 = .ok (.iconst 1, 1) := by decide +kernel
theorem dX9_furthest_18 : decode cX9_furthest 18 = .ok (.if_icmp .ne 33, 3) := by decide +kernel
theorem dX9_furthest_21 : decode cX9_furthest 21 = .ok (.iload_n 2, 1) := by decide +kernel
theorem dX9_furthest_22 : decode cX9_furthest 22 = .ok (.iconst (-1), 1) := by decide +kernel
theorem dX9_furthest_23 : decode cX9_furthest 23 = .ok (.if_icmp .eq 26, 3) := by decide +kernel
theorem dX9_furthest_26 : decode cX9_furthest 26 = .ok (.aload_n 0, 1) := by decide +kernel
theorem dX9_furthest_27 : decode cX9_furthest 27 = .ok (.aload_n 0, 1) := by decide +kernel
theorem dX9_furthest_28 : decode cX9_furthest 28 = .ok (.getfield 22, 3) := by decide +kernel
theorem dX9_furthest_31 : decode cX9_furthest 31 = .ok (.iload_n 3, 1) := by decide +kernel
theorem dX9_furthest_32 : decode cX9_furthest 32 = .ok (.iaload, 1) := by decide +kernel
theorem dX9_furthest_33 : decode cX9_furthest 33 = .ok (.invokevirtual 206, 3) := by decide +kernel
theorem dX9_furthest_36 : decode cX9_furthest 36 = .ok (.aload_n 0, 1) := by decide +kernel
theorem dX9_furthest_37 : decode cX9_furthest 37 = .ok (.aload_n 0, 1) := by decide +kernel
theorem dX9_furthest_38 : decode cX9_furthest 38 = .ok (.getfield 22, 3) := by decide +kernel
theorem dX9_furthest_41 : decode cX9_furthest 41 = .ok (.iload_n 2, 1) := by decide +kernel
theorem dX9_furthest_42 : decode cX9_furthest 42 = .ok (.iaload, 1) := by decide +kernel
theorem dX9_furthest_43 : decode cX9_furthest 43 = .ok (.invokevirtual 206, 3) := by decide +kernel
theorem dX9_furthest_46 : decode cX9_furthest 46 = .ok (.if_icmp .le 5, 3) := by decide +kernel
theorem dX9_furthest_49 : decode cX9_furthest 49 = .ok (.iload_n 3, 1) := by decide +kernel
theorem dX9_furthest_50 : decode cX9_furthest 50 = .ok (.istore_n 2, 1) := by decide +kernel
theorem dX9_furthest_51 : decode cX9_furthest 51 = .ok (.iinc 3 1, 3) := by decide +kernel
theorem dX9_furthest_54 : decode cX9_furthest 54 = .ok (.goto (-50), 3) := by decide +kernel
theorem dX9_furthest_57 : decode cX9_furthest 57 = .ok (.iload_n 2, 1) := by decide +kernel
theorem dX9_furthest_58 : decode cX9_furthest 58 = .ok (.ireturn, 1) := by decide +kernel
theorem dX9_chosenNow_0 : decode cX9_chosenNow 0 = .ok (.iconst 0, 1) := by decide +kernel
theorem dX9_chosenNow_1 : decode cX9_chosenNow 1 = .ok (.istore_n 1, 1) := by decide +kernel
theorem dX9_chosenNow_2 : decode cX9_chosenNow 2 = .ok (.iconst 0, 1) := by decide +kernel
theorem dX9_chosenNow_3 : decode cX9_chosenNow 3 = .ok (.istore_n 2, 1) := by decide +kernel
theorem dX9_chosenNow_4 : decode cX9_chosenNow 4 = .ok (.iload_n 2, 1) := by decide +kernel
theorem dX9_chosenNow_5 : decode cX9_chosenNow 5 = .ok (.aload_n 0, 1) := by decide +kernel
theorem dX9_chosenNow_6 : decode cX9_chosenNow 6 = .ok (.getfield 83, 3) := by decide +kernel
theorem dX9_chosenNow_9 : decode cX9_chosenNow 9 = .ok (.if_icmp .ge 46, 3) := by decide +kernel
theorem dX9_chosenNow_12 : decode cX9_chosenNow 12 = .ok (.iload_n 2, 1) := by decide +kernel
theorem dX9_chosenNow_13 : decode cX9_chosenNow 13 = .ok (.aload_n 0, 1) := by decide +kernel
theorem dX9_chosenNow_14 : decode cX9_chosenNow 14 = .ok (.getfield 73, 3) := by decide +kernel
theorem dX9_chosenNow_17 : decode cX9_chosenNow 17 = .ok (.if_icmp .eq 32, 3) := by decide +kernel
theorem dX9_chosenNow_20 : decode cX9_chosenNow 20 = .ok (.aload_n 0, 1) := by decide +kernel
theorem dX9_chosenNow_21 : decode cX9_chosenNow 21 = .ok (.iload_n 2, 1) := by decide +kernel
theorem dX9_chosenNow_22 : decode cX9_chosenNow 22 = .ok (.invokevirtual 137, 3) := by decide +kernel
theorem dX9_chosenNow_25 : decode cX9_chosenNow 25 = .ok (.ifCond .ne 24, 3) := by decide +kernel
theorem dX9_chosenNow_28 : decode cX9_chosenNow 28 = .ok (.aload_n 0, 1) := by decide +kernel
theorem dX9_chosenNow_29 : decode cX9_chosenNow 29 = .ok (.aload_n 0, 1) := by decide +kernel
theorem dX9_chosenNow_30 : decode cX9_chosenNow 30 = .ok (.getfield 22, 3) := by decide +kernel
theorem dX9_chosenNow_33 : decode cX9_chosenNow 33 = .ok (.iload_n 2, 1) := by decide +kernel
theorem dX9_chosenNow_34 : decode cX9_chosenNow 34 = .ok (.iaload, 1) := by decide +kernel
theorem dX9_chosenNow_35 : decode cX9_chosenNow 35 = .ok (.invokevirtual 206, 3) := by decide +kernel
theorem dX9_chosenNow_38 : decode cX9_chosenNow 38 = .ok (.bipush 99, 2) := by decide +kernel
theorem dX9_chosenNow_40 : decode cX9_chosenNow 40 = .ok (.if_icmp .ge 9, 3) := by decide +kernel
theorem dX9_chosenNow_43 : decode cX9_chosenNow 43 = .ok (.iload_n 1, 1) := by decide +kernel
theorem dX9_chosenNow_44 : decode cX9_chosenNow 44 = .ok (.iconst 1, 1) := by decide +kernel
theorem dX9_chosenNow_45 : decode cX9_chosenNow 45 = .ok (.iload_n 2, 1) := by decide +kernel
theorem dX9_chosenNow_46 : decode cX9_chosenNow 46 = .ok (.ishl, 1) := by decide +kernel
theorem dX9_chosenNow_47 : decode cX9_chosenNow 47 = .ok (.ior, 1) := by decide +kernel
theorem dX9_chosenNow_48 : decode cX9_chosenNow 48 = .ok (.istore_n 1, 1) := by decide +kernel
theorem dX9_chosenNow_49 : decode cX9_chosenNow 49 = .ok (.iinc 2 1, 3) := by decide +kernel
theorem dX9_chosenNow_52 : decode cX9_chosenNow 52 = .ok (.goto (-48), 3) := by decide +kernel
theorem dX9_chosenNow_55 : decode cX9_chosenNow 55 = .ok (.iconst 0, 1) := by decide +kernel
theorem dX9_chosenNow_56 : decode cX9_chosenNow 56 = .ok (.istore_n 2, 1) := by decide +kernel
theorem dX9_chosenNow_57 : decode cX9_chosenNow 57 = .ok (.iconst 0, 1) := by decide +kernel
theorem dX9_chosenNow_58 : decode cX9_chosenNow 58 = .ok (.istore_n 3, 1) := by decide +kernel
theorem dX9_chosenNow_59 : decode cX9_chosenNow 59 = .ok (.iload_n 3, 1) := by decide +kernel
theorem dX9_chosenNow_60 : decode cX9_chosenNow 60 = .ok (.aload_n 0, 1) := by decide +kernel
theorem dX9_chosenNow_61 : decode cX9_chosenNow 61 = .ok (.getfield 32, 3) := by decide +kernel
theorem dX9_chosenNow_64 : decode cX9_chosenNow 64 = .ok (.iconst 0, 1) := by decide +kernel
theorem dX9_chosenNow_65 : decode cX9_chosenNow 65 = .ok (.iaload, 1) := by decide +kernel
theorem dX9_chosenNow_66 : decode cX9_chosenNow 66 = .ok (.if_icmp .ge 33, 3) := by decide +kernel
theorem dX9_chosenNow_69 : decode cX9_chosenNow 69 = .ok (.aload_n 0, 1) := by decide +kernel
theorem dX9_chosenNow_70 : decode cX9_chosenNow 70 = .ok (.iload_n 1, 1) := by decide +kernel
theorem dX9_chosenNow_71 : decode cX9_chosenNow 71 = .ok (.iload_n 2, 1) := by decide +kernel
theorem dX9_chosenNow_72 : decode cX9_chosenNow 72 = .ok (.iconst (-1), 1) := by decide +kernel
theorem dX9_chosenNow_73 : decode cX9_chosenNow 73 = .ok (.ixor, 1) := by decide +kernel
theorem dX9_chosenNow_74 : decode cX9_chosenNow 74 = .ok (.iand, 1) := by decide +kernel
theorem dX9_chosenNow_75 : decode cX9_chosenNow 75 = .ok (.invokevirtual 219, 3) := by decide +kernel
theorem dX9_chosenNow_78 : decode cX9_chosenNow 78 = .ok (.istore 4, 2) := by decide +kernel
theorem dX9_chosenNow_80 : decode cX9_chosenNow 80 = .ok (.iload 4, 2) := by decide +kernel
theorem dX9_chosenNow_82 : decode cX9_chosenNow 82 = .ok (.iconst (-1), 1) := by decide +kernel
theorem dX9_chosenNow_83 : decode cX9_chosenNow 83 = .ok (.if_icmp .eq 10, 3) := by decide +kernel
theorem dX9_chosenNow_86 : decode cX9_chosenNow 86 = .ok (.iload_n 2, 1) := by decide +kernel
theorem dX9_chosenNow_87 : decode cX9_chosenNow 87 = .ok (.iconst 1, 1) := by decide +kernel
theorem dX9_chosenNow_88 : decode cX9_chosenNow 88 = .ok (.iload 4, 2) := by decide +kernel
theorem dX9_chosenNow_90 : decode cX9_chosenNow 90 = .ok (.ishl, 1) := by decide +kernel
theorem dX9_chosenNow_91 : decode cX9_chosenNow 91 = .ok (.ior, 1) := by decide +kernel
theorem dX9_chosenNow_92 : decode cX9_chosenNow 92 = .ok (.istore_n 2, 1) := by decide +kernel
theorem dX9_chosenNow_93 : decode cX9_chosenNow 93 = .ok (.iinc 3 1, 3) := by decide +kernel
theorem dX9_chosenNow_96 : decode cX9_chosenNow 96 = .ok (.goto (-37), 3) := by decide +kernel
theorem dX9_chosenNow_99 : decode cX9_chosenNow 99 = .ok (.iload_n 2, 1) := by decide +kernel
theorem dX9_chosenNow_100 : decode cX9_chosenNow 100 = .ok (.ireturn, 1) := by decide +kernel
theorem dX9_outNow_0 : decode cX9_outNow 0 = .ok (.iconst 0, 1) := by decide +kernel
theorem dX9_outNow_1 : decode cX9_outNow 1 = .ok (.istore_n 1, 1) := by decide +kernel
theorem dX9_outNow_2 : decode cX9_outNow 2 = .ok (.iconst 0, 1) := by decide +kernel
theorem dX9_outNow_3 : decode cX9_outNow 3 = .ok (.istore_n 2, 1) := by decide +kernel
theorem dX9_outNow_4 : decode cX9_outNow 4 = .ok (.iload_n 2, 1) := by decide +kernel
theorem dX9_outNow_5 : decode cX9_outNow 5 = .ok (.aload_n 0, 1) := by decide +kernel
theorem dX9_outNow_6 : decode cX9_outNow 6 = .ok (.getfield 83, 3) := by decide +kernel
theorem dX9_outNow_9 : decode cX9_outNow 9 = .ok (.if_icmp .ge 23, 3) := by decide +kernel
theorem dX9_outNow_12 : decode cX9_outNow 12 = .ok (.aload_n 0, 1) := by decide +kernel
theorem dX9_outNow_13 : decode cX9_outNow 13 = .ok (.iload_n 2, 1) := by decide +kernel
theorem dX9_outNow_14 : decode cX9_outNow 14 = .ok (.invokevirtual 137, 3) := by decide +kernel
theorem dX9_outNow_17 : decode cX9_outNow 17 = .ok (.ifCond .eq 9, 3) := by decide +kernel
theorem dX9_outNow_20 : decode cX9_outNow 20 = .ok (.iload_n 1, 1) := by decide +kernel
theorem dX9_outNow_21 : decode cX9_outNow 21 = .ok (.iconst 1, 1) := by decide +kernel
theorem dX9_outNow_22 : decode cX9_outNow 22 = .ok (.iload_n 2, 1) := by decide +kernel
theorem dX9_outNow_23 : decode cX9_outNow 23 = .ok (.ishl, 1) := by decide +kernel
theorem dX9_outNow_24 : decode cX9_outNow 24 = .ok (.ior, 1) := by decide +kernel
theorem dX9_outNow_25 : decode cX9_outNow 25 = .ok (.istore_n 1, 1) := by decide +kernel
theorem dX9_outNow_26 : decode cX9_outNow 26 = .ok (.iinc 2 1, 3) := by decide +kernel
theorem dX9_outNow_29 : decode cX9_outNow 29 = .ok (.goto (-25), 3) := by decide +kernel
theorem dX9_outNow_32 : decode cX9_outNow 32 = .ok (.iload_n 1, 1) := by decide +kernel
theorem dX9_outNow_33 : decode cX9_outNow 33 = .ok (.ireturn, 1) := by decide +kernel
theorem dX9_fleeing_0 : decode cX9_fleeing 0 = .ok (.iconst 0, 1) := by decide +kernel
theorem dX9_fleeing_1 : decode cX9_fleeing 1 = .ok (.istore_n 1, 1) := by decide +kernel
theorem dX9_fleeing_2 : decode cX9_fleeing 2 = .ok (.iconst 0, 1) := by decide +kernel
theorem dX9_fleeing_3 : decode cX9_fleeing 3 = .ok (.istore_n 2, 1) := by decide +kernel
theorem dX9_fleeing_4 : decode cX9_fleeing 4 = .ok (.iload_n 2, 1) := by decide +kernel
theorem dX9_fleeing_5 : decode cX9_fleeing 5 = .ok (.aload_n 0, 1) := by decide +kernel
theorem dX9_fleeing_6 : decode cX9_fleeing 6 = .ok (.getfield 83, 3) := by decide +kernel
theorem dX9_fleeing_9 : decode cX9_fleeing 9 = .ok (.if_icmp .ge 23, 3) := by decide +kernel
theorem dX9_fleeing_12 : decode cX9_fleeing 12 = .ok (.aload_n 0, 1) := by decide +kernel
theorem dX9_fleeing_13 : decode cX9_fleeing 13 = .ok (.iload_n 2, 1) := by decide +kernel
theorem dX9_fleeing_14 : decode cX9_fleeing 14 = .ok (.invokevirtual 134, 3) := by decide +kernel
theorem dX9_fleeing_17 : decode cX9_fleeing 17 = .ok (.ifCond .eq 9, 3) := by decide +kernel
theorem dX9_fleeing_20 : decode cX9_fleeing 20 = .ok (.iload_n 1, 1) := by decide +kernel
theorem dX9_fleeing_21 : decode cX9_fleeing 21 = .ok (.iconst 1, 1) := by decide +kernel
theorem dX9_fleeing_22 : decode cX9_fleeing 22 = .ok (.iload_n 2, 1) := by decide +kernel
theorem dX9_fleeing_23 : decode cX9_fleeing 23 = .ok (.ishl, 1) := by decide +kernel
theorem dX9_fleeing_24 : decode cX9_fleeing 24 = .ok (.ior, 1) := by decide +kernel
theorem dX9_fleeing_25 : decode cX9_fleeing 25 = .ok (.istore_n 1, 1) := by decide +kernel
theorem dX9_fleeing_26 : decode cX9_fleeing 26 = .ok (.iinc 2 1, 3) := by decide +kernel
theorem dX9_fleeing_29 : decode cX9_fleeing 29 = .ok (.goto (-25), 3) := by decide +kernel
theorem dX9_fleeing_32 : decode cX9_fleeing 32 = .ok (.iload_n 1, 1) := by decide +kernel
theorem dX9_fleeing_33 : decode cX9_fleeing 33 = .ok (.ireturn, 1) := by decide +kernel
theorem dX9_who_0 : decode cX9_who 0 = .ok (.iload_n 1, 1) := by decide +kernel
theorem dX9_who_1 : decode cX9_who 1 = .ok (.ifCond .ne 10, 3) := by decide +kernel
theorem dX9_who_4 : decode cX9_who 4 = .ok (.aload_n 0, 1) := by decide +kernel
theorem dX9_who_5 : decode cX9_who 5 = .ok (.invokevirtual 222, 3) := by decide +kernel
theorem dX9_who_8 : decode cX9_who 8 = .ok (.goto 33, 3) := by decide +kernel
theorem dX9_who_11 : decode cX9_who 11 = .ok (.iload_n 1, 1) := by decide +kernel
theorem dX9_who_12 : decode cX9_who 12 = .ok (.iconst 1, 1) := by decide +kernel
theorem dX9_who_13 : decode cX9_who 13 = .ok (.if_icmp .ne 10, 3) := by decide +kernel
theorem dX9_who_16 : decode cX9_who 16 = .ok (.aload_n 0, 1) := by decide +kernel
theorem dX9_who_17 : decode cX9_who 17 = .ok (.invokevirtual 225, 3) := by decide +kernel
theorem dX9_who_20 : decode cX9_who 20 = .ok (.goto 21, 3) := by decide +kernel
theorem dX9_who_23 : decode cX9_who 23 = .ok (.iload_n 1, 1) := by decide +kernel
theorem dX9_who_24 : decode cX9_who 24 = .ok (.iconst 2, 1) := by decide +kernel
theorem dX9_who_25 : decode cX9_who 25 = .ok (.if_icmp .ne 10, 3) := by decide +kernel
theorem dX9_who_28 : decode cX9_who 28 = .ok (.aload_n 0, 1) := by decide +kernel
theorem dX9_who_29 : decode cX9_who 29 = .ok (.invokevirtual 228, 3) := by decide +kernel
theorem dX9_who_32 : decode cX9_who 32 = .ok (.goto 9, 3) := by decide +kernel
theorem dX9_who_35 : decode cX9_who 35 = .ok (.aload_n 0, 1) := by decide +kernel
theorem dX9_who_36 : decode cX9_who 36 = .ok (.bipush (-5), 2) := by decide +kernel
theorem dX9_who_38 : decode cX9_who 38 = .ok (.invokevirtual 79, 3) := by decide +kernel
theorem dX9_who_41 : decode cX9_who 41 = .ok (.ireturn, 1) := by decide +kernel
theorem dX9_where_0 : decode cX9_where 0 = .ok (.aload_n 0, 1) := by decide +kernel
theorem dX9_where_1 : decode cX9_where 1 = .ok (.iload_n 1, 1) := by decide +kernel
theorem dX9_where_2 : decode cX9_where 2 = .ok (.invokevirtual 97, 3) := by decide +kernel
theorem dX9_where_5 : decode cX9_where 5 = .ok (.ifCond .ne 9, 3) := by decide +kernel
theorem dX9_where_8 : decode cX9_where 8 = .ok (.aload_n 0, 1) := by decide +kernel
theorem dX9_where_9 : decode cX9_where 9 = .ok (.iconst (-1), 1) := by decide +kernel
theorem dX9_where_10 : decode cX9_where 10 = .ok (.invokevirtual 79, 3) := by decide +kernel
theorem dX9_where_13 : decode cX9_where 13 = .ok (.ireturn, 1) := by decide +kernel
theorem dX9_where_14 : decode cX9_where 14 = .ok (.iload_n 2, 1) := by decide +kernel
theorem dX9_where_15 : decode cX9_where 15 = .ok (.invokestatic 231, 3) := by decide +kernel
theorem dX9_where_18 : decode cX9_where 18 = .ok (.ifCond .ne 10, 3) := by decide +kernel
theorem dX9_where_21 : decode cX9_where 21 = .ok (.aload_n 0, 1) := by decide +kernel
theorem dX9_where_22 : decode cX9_where 22 = .ok (.bipush (-6), 2) := by decide +kernel
theorem dX9_where_24 : decode cX9_where 24 = .ok (.invokevirtual 79, 3) := by decide +kernel
theorem dX9_where_27 : decode cX9_where 27 = .ok (.ireturn, 1) := by decide +kernel
theorem dX9_where_28 : decode cX9_where 28 = .ok (.aload_n 0, 1) := by decide +kernel
theorem dX9_where_29 : decode cX9_where 29 = .ok (.aload_n 0, 1) := by decide +kernel
theorem dX9_where_30 : decode cX9_where 30 = .ok (.getfield 66, 3) := by decide +kernel
theorem dX9_where_33 : decode cX9_where 33 = .ok (.invokevirtual 187, 3) := by decide +kernel
theorem dX9_where_36 : decode cX9_where 36 = .ok (.aload_n 0, 1) := by decide +kernel
theorem dX9_where_37 : decode cX9_where 37 = .ok (.iload_n 2, 1) := by decide +kernel
theorem dX9_where_38 : decode cX9_where 38 = .ok (.invokevirtual 234, 3) := by decide +kernel
theorem dX9_where_41 : decode cX9_where 41 = .ok (.aload_n 0, 1) := by decide +kernel
theorem dX9_where_42 : decode cX9_where 42 = .ok (.getfield 22, 3) := by decide +kernel
theorem dX9_where_45 : decode cX9_where 45 = .ok (.iload_n 1, 1) := by decide +kernel
theorem dX9_where_46 : decode cX9_where 46 = .ok (.iaload, 1) := by decide +kernel
theorem dX9_where_47 : decode cX9_where 47 = .ok (.istore_n 3, 1) := by decide +kernel
theorem dX9_where_48 : decode cX9_where 48 = .ok (.aload_n 0, 1) := by decide +kernel
theorem dX9_where_49 : decode cX9_where 49 = .ok (.aload_n 0, 1) := by decide +kernel
theorem dX9_where_50 : decode cX9_where 50 = .ok (.getfield 66, 3) := by decide +kernel
theorem dX9_where_53 : decode cX9_where 53 = .ok (.invokevirtual 195, 3) := by decide +kernel
theorem dX9_where_56 : decode cX9_where 56 = .ok (.iload_n 3, 1) := by decide +kernel
theorem dX9_where_57 : decode cX9_where 57 = .ok (.ireturn, 1) := by decide +kernel
theorem dX9_chosenBehind_0 : decode cX9_chosenBehind 0 = .ok (.aload_n 0, 1) := by decide +kernel
theorem dX9_chosenBehind_1 : decode cX9_chosenBehind 1 = .ok (.aload_n 0, 1) := by decide +kernel
theorem dX9_chosenBehind_2 : decode cX9_chosenBehind 2 = .ok (.getfield 66, 3) := by decide +kernel
theorem dX9_chosenBehind_5 : decode cX9_chosenBehind 5 = .ok (.invokevirtual 187, 3) := by decide +kernel
theorem dX9_chosenBehind_8 : decode cX9_chosenBehind 8 = .ok (.aload_n 0, 1) := by decide +kernel
theorem dX9_chosenBehind_9 : decode cX9_chosenBehind 9 = .ok (.iload_n 1, 1) := by decide +kernel
theorem dX9_chosenBehind_10 : decode cX9_chosenBehind 10 = .ok (.invokevirtual 234, 3) := by decide +kernel
theorem dX9_chosenBehind_13 : decode cX9_chosenBehind 13 = .ok (.aload_n 0, 1) := by decide +kernel
theorem dX9_chosenBehind_14 : decode cX9_chosenBehind 14 = .ok (.invokevirtual 222, 3) := by decide +kernel
theorem dX9_chosenBehind_17 : decode cX9_chosenBehind 17 = .ok (.istore_n 2, 1) := by decide +kernel
theorem dX9_chosenBehind_18 : decode cX9_chosenBehind 18 = .ok (.aload_n 0, 1) := by decide +kernel
theorem dX9_chosenBehind_19 : decode cX9_chosenBehind 19 = .ok (.aload_n 0, 1) := by decide +kernel
theorem dX9_chosenBehind_20 : decode cX9_chosenBehind 20 = .ok (.getfield 66, 3) := by decide +kernel
theorem dX9_chosenBehind_23 : decode cX9_chosenBehind 23 = .ok (.invokevirtual 195, 3) := by decide +kernel
theorem dX9_chosenBehind_26 : decode cX9_chosenBehind 26 = .ok (.iload_n 2, 1) := by decide +kernel
theorem dX9_chosenBehind_27 : decode cX9_chosenBehind 27 = .ok (.ireturn, 1) := by decide +kernel
theorem dX9_chosen_0 : decode cX9_chosen 0 = .ok (.iload_n 1, 1) := by decide +kernel
theorem dX9_chosen_1 : decode cX9_chosen 1 = .ok (.invokestatic 231, 3) := by decide +kernel
theorem dX9_chosen_4 : decode cX9_chosen 4 = .ok (.ifCond .eq 11, 3) := by decide +kernel
theorem dX9_chosen_7 : decode cX9_chosen 7 = .ok (.aload_n 0, 1) := by decide +kernel
theorem dX9_chosen_8 : decode cX9_chosen 8 = .ok (.iload_n 1, 1) := by decide +kernel
theorem dX9_chosen_9 : decode cX9_chosen 9 = .ok (.invokevirtual 237, 3) := by decide +kernel
theorem dX9_chosen_12 : decode cX9_chosen 12 = .ok (.goto 9, 3) := by decide +kernel
theorem dX9_chosen_15 : decode cX9_chosen 15 = .ok (.aload_n 0, 1) := by decide +kernel
theorem dX9_chosen_16 : decode cX9_chosen 16 = .ok (.bipush (-6), 2) := by decide +kernel
theorem dX9_chosen_18 : decode cX9_chosen 18 = .ok (.invokevirtual 79, 3) := by decide +kernel
theorem dX9_chosen_21 : decode cX9_chosen 21 = .ok (.ireturn, 1) := by decide +kernel
theorem dX9_hide_0 : decode cX9_hide 0 = .ok (.aload_n 0, 1) := by decide +kernel
theorem dX9_hide_1 : decode cX9_hide 1 = .ok (.iload_n 1, 1) := by decide +kernel
theorem dX9_hide_2 : decode cX9_hide 2 = .ok (.invokevirtual 97, 3) := by decide +kernel
theorem dX9_hide_5 : decode cX9_hide 5 = .ok (.ifCond .ne 9, 3) := by decide +kernel
theorem dX9_hide_8 : decode cX9_hide 8 = .ok (.aload_n 0, 1) := by decide +kernel
theorem dX9_hide_9 : decode cX9_hide 9 = .ok (.iconst (-1), 1) := by decide +kernel
theorem dX9_hide_10 : decode cX9_hide 10 = .ok (.invokevirtual 240, 3) := by decide +kernel
theorem dX9_hide_13 : decode cX9_hide 13 = .ok (.ireturn, 1) := by decide +kernel
theorem dX9_hide_14 : decode cX9_hide 14 = .ok (.iload_n 2, 1) := by decide +kernel
theorem dX9_hide_15 : decode cX9_hide 15 = .ok (.invokestatic 231, 3) := by decide +kernel
theorem dX9_hide_18 : decode cX9_hide 18 = .ok (.ifCond .ne 10, 3) := by decide +kernel
theorem dX9_hide_21 : decode cX9_hide 21 = .ok (.aload_n 0, 1) := by decide +kernel
theorem dX9_hide_22 : decode cX9_hide 22 = .ok (.bipush (-6), 2) := by decide +kernel
theorem dX9_hide_24 : decode cX9_hide 24 = .ok (.invokevirtual 240, 3) := by decide +kernel
theorem dX9_hide_27 : decode cX9_hide 27 = .ok (.ireturn, 1) := by decide +kernel
theorem dX9_hide_28 : decode cX9_hide 28 = .ok (.aload_n 0, 1) := by decide +kernel
theorem dX9_hide_29 : decode cX9_hide 29 = .ok (.aload_n 0, 1) := by decide +kernel
theorem dX9_hide_30 : decode cX9_hide 30 = .ok (.getfield 22, 3) := by decide +kernel
theorem dX9_hide_33 : decode cX9_hide 33 = .ok (.iload_n 1, 1) := by decide +kernel
theorem dX9_hide_34 : decode cX9_hide 34 = .ok (.iaload, 1) := by decide +kernel
theorem dX9_hide_35 : decode cX9_hide 35 = .ok (.aload_n 0, 1) := by decide +kernel
theorem dX9_hide_36 : decode cX9_hide 36 = .ok (.getfield 63, 3) := by decide +kernel
theorem dX9_hide_39 : decode cX9_hide 39 = .ok (.invokevirtual 202, 3) := by decide +kernel
theorem dX9_hide_42 : decode cX9_hide 42 = .ok (.iconst (-1), 1) := by decide +kernel
theorem dX9_hide_43 : decode cX9_hide 43 = .ok (.istore_n 3, 1) := by decide +kernel
theorem dX9_hide_44 : decode cX9_hide 44 = .ok (.iconst 0, 1) := by decide +kernel
theorem dX9_hide_45 : decode cX9_hide 45 = .ok (.istore 4, 2) := by decide +kernel
theorem dX9_hide_47 : decode cX9_hide 47 = .ok (.iload 4, 2) := by decide +kernel
theorem dX9_hide_49 : decode cX9_hide 49 = .ok (.bipush 49, 2) := by decide +kernel
theorem dX9_hide_51 : decode cX9_hide 51 = .ok (.if_icmp .ge 53, 3) := by decide +kernel
theorem dX9_hide_54 : decode cX9_hide 54 = .ok (.aload_n 0, 1) := by decide +kernel
theorem dX9_hide_55 : decode cX9_hide 55 = .ok (.getfield 63, 3) := by decide +kernel
theorem dX9_hide_58 : decode cX9_hide 58 = .ok (.iload 4, 2) := by decide +kernel
theorem dX9_hide_60 : decode cX9_hide 60 = .ok (.iaload, 1) := by decide +kernel
theorem dX9_hide_61 : decode cX9_hide 61 = .ok (.iload_n 2, 1) := by decide +kernel
theorem dX9_hide_62 : decode cX9_hide 62 = .ok (.if_icmp .gt 36, 3) := by decide +kernel
theorem dX9_hide_65 : decode cX9_hide 65 = .ok (.aload_n 0, 1) := by decide +kernel
theorem dX9_hide_66 : decode cX9_hide 66 = .ok (.iload 4, 2) := by decide +kernel
theorem dX9_hide_68 : decode cX9_hide 68 = .ok (.invokevirtual 206, 3) := by decide +kernel
theorem dX9_hide_71 : decode cX9_hide 71 = .ok (.bipush 99, 2) := by decide +kernel
theorem dX9_hide_73 : decode cX9_hide 73 = .ok (.if_icmp .ge 25, 3) := by decide +kernel
theorem dX9_hide_76 : decode cX9_hide 76 = .ok (.iload_n 3, 1) := by decide +kernel
theorem dX9_hide_77 : decode cX9_hide 77 = .ok (.iconst (-1), 1) := by decide +kernel
theorem dX9_hide_78 : decode cX9_hide 78 = .ok (.if_icmp .eq 17, 3) := by decide +kernel
theorem dX9_hide_81 : decode cX9_hide 81 = .ok (.aload_n 0, 1) := by decide +kernel
theorem dX9_hide_82 : decode cX9_hide 82 = .ok (.iload 4, 2) := by decide +kernel
theorem dX9_hide_84 : decode cX9_hide 84 = .ok (.invokevirtual 206, 3) := by decide +kernel
theorem dX9_hide_87 : decode cX9_hide 87 = .ok (.aload_n 0, 1) := by decide +kernel
theorem dX9_hide_88 : decode cX9_hide 88 = .ok (.iload_n 3, 1) := by decide +kernel
theorem dX9_hide_89 : decode cX9_hide 89 = .ok (.invokevirtual 206, 3) := by decide +kernel
theorem dX9_hide_92 : decode cX9_hide 92 = .ok (.if_icmp .le 6, 3) := by decide +kernel
theorem dX9_hide_95 : decode cX9_hide 95 = .ok (.iload 4, 2) := by decide +kernel
theorem dX9_hide_97 : decode cX9_hide 97 = .ok (.istore_n 3, 1) := by decide +kernel
theorem dX9_hide_98 : decode cX9_hide 98 = .ok (.iinc 4 1, 3) := by decide +kernel
theorem dX9_hide_101 : decode cX9_hide 101 = .ok (.goto (-54), 3) := by decide +kernel
theorem dX9_hide_104 : decode cX9_hide 104 = .ok (.iload_n 3, 1) := by decide +kernel
theorem dX9_hide_105 : decode cX9_hide 105 = .ok (.ireturn, 1) := by decide +kernel
theorem dX9_to_0 : decode cX9_to 0 = .ok (.aload_n 0, 1) := by decide +kernel
theorem dX9_to_1 : decode cX9_to 1 = .ok (.iload_n 1, 1) := by decide +kernel
theorem dX9_to_2 : decode cX9_to 2 = .ok (.invokevirtual 97, 3) := by decide +kernel
theorem dX9_to_5 : decode cX9_to 5 = .ok (.ifCond .ne 9, 3) := by decide +kernel
theorem dX9_to_8 : decode cX9_to 8 = .ok (.aload_n 0, 1) := by decide +kernel
theorem dX9_to_9 : decode cX9_to 9 = .ok (.iconst (-1), 1) := by decide +kernel
theorem dX9_to_10 : decode cX9_to 10 = .ok (.invokevirtual 240, 3) := by decide +kernel
theorem dX9_to_13 : decode cX9_to 13 = .ok (.ireturn, 1) := by decide +kernel
theorem dX9_to_14 : decode cX9_to 14 = .ok (.aload_n 0, 1) := by decide +kernel
theorem dX9_to_15 : decode cX9_to 15 = .ok (.iload_n 2, 1) := by decide +kernel
theorem dX9_to_16 : decode cX9_to 16 = .ok (.invokevirtual 116, 3) := by decide +kernel
theorem dX9_to_19 : decode cX9_to 19 = .ok (.ifCond .ne 10, 3) := by decide +kernel
theorem dX9_to_22 : decode cX9_to 22 = .ok (.aload_n 0, 1) := by decide +kernel
theorem dX9_to_23 : decode cX9_to 23 = .ok (.bipush (-6), 2) := by decide +kernel
theorem dX9_to_25 : decode cX9_to 25 = .ok (.invokevirtual 240, 3) := by decide +kernel
theorem dX9_to_28 : decode cX9_to 28 = .ok (.ireturn, 1) := by decide +kernel
theorem dX9_to_29 : decode cX9_to 29 = .ok (.aload_n 0, 1) := by decide +kernel
theorem dX9_to_30 : decode cX9_to 30 = .ok (.aload_n 0, 1) := by decide +kernel
theorem dX9_to_31 : decode cX9_to 31 = .ok (.getfield 22, 3) := by decide +kernel
theorem dX9_to_34 : decode cX9_to 34 = .ok (.iload_n 1, 1) := by decide +kernel
theorem dX9_to_35 : decode cX9_to 35 = .ok (.iaload, 1) := by decide +kernel
theorem dX9_to_36 : decode cX9_to 36 = .ok (.aload_n 0, 1) := by decide +kernel
theorem dX9_to_37 : decode cX9_to 37 = .ok (.getfield 63, 3) := by decide +kernel
theorem dX9_to_40 : decode cX9_to 40 = .ok (.invokevirtual 202, 3) := by decide +kernel
theorem dX9_to_43 : decode cX9_to 43 = .ok (.aload_n 0, 1) := by decide +kernel
theorem dX9_to_44 : decode cX9_to 44 = .ok (.getfield 63, 3) := by decide +kernel
theorem dX9_to_47 : decode cX9_to 47 = .ok (.iload_n 2, 1) := by decide +kernel
theorem dX9_to_48 : decode cX9_to 48 = .ok (.iaload, 1) := by decide +kernel
theorem dX9_to_49 : decode cX9_to 49 = .ok (.bipush 99, 2) := by decide +kernel
theorem dX9_to_51 : decode cX9_to 51 = .ok (.if_icmp .ne 7, 3) := by decide +kernel
theorem dX9_to_54 : decode cX9_to 54 = .ok (.iconst (-1), 1) := by decide +kernel
theorem dX9_to_55 : decode cX9_to 55 = .ok (.goto 9, 3) := by decide +kernel
theorem dX9_to_58 : decode cX9_to 58 = .ok (.aload_n 0, 1) := by decide +kernel
theorem dX9_to_59 : decode cX9_to 59 = .ok (.getfield 63, 3) := by decide +kernel
theorem dX9_to_62 : decode cX9_to 62 = .ok (.iload_n 2, 1) := by decide +kernel
theorem dX9_to_63 : decode cX9_to 63 = .ok (.iaload, 1) := by decide +kernel
theorem dX9_to_64 : decode cX9_to 64 = .ok (.ireturn, 1) := by decide +kernel
theorem dX9_spared_0 : decode cX9_spared 0 = .ok (.aload_n 0, 1) := by decide +kernel
theorem dX9_spared_1 : decode cX9_spared 1 = .ok (.iload_n 1, 1) := by decide +kernel
theorem dX9_spared_2 : decode cX9_spared 2 = .ok (.invokevirtual 97, 3) := by decide +kernel
theorem dX9_spared_5 : decode cX9_spared 5 = .ok (.ifCond .ne 9, 3) := by decide +kernel
theorem dX9_spared_8 : decode cX9_spared 8 = .ok (.aload_n 0, 1) := by decide +kernel
theorem dX9_spared_9 : decode cX9_spared 9 = .ok (.iconst (-1), 1) := by decide +kernel
theorem dX9_spared_10 : decode cX9_spared 10 = .ok (.invokevirtual 240, 3) := by decide +kernel
theorem dX9_spared_13 : decode cX9_spared 13 = .ok (.ireturn, 1) := by decide +kernel
theorem dX9_spared_14 : decode cX9_spared 14 = .ok (.iload_n 2, 1) := by decide +kernel
theorem dX9_spared_15 : decode cX9_spared 15 = .ok (.invokestatic 231, 3) := by decide +kernel
theorem dX9_spared_18 : decode cX9_spared 18 = .ok (.ifCond .ne 10, 3) := by decide +kernel
theorem dX9_spared_21 : decode cX9_spared 21 = .ok (.aload_n 0, 1) := by decide +kernel
theorem dX9_spared_22 : decode cX9_spared 22 = .ok (.bipush (-6), 2) := by decide +kernel
theorem dX9_spared_24 : decode cX9_spared 24 = .ok (.invokevirtual 240, 3) := by decide +kernel
theorem dX9_spared_27 : decode cX9_spared 27 = .ok (.ireturn, 1) := by decide +kernel
theorem dX9_spared_28 : decode cX9_spared 28 = .ok (.iconst (-1), 1) := by decide +kernel
theorem dX9_spared_29 : decode cX9_spared 29 = .ok (.istore_n 3, 1) := by decide +kernel
theorem dX9_spared_30 : decode cX9_spared 30 = .ok (.bipush 48, 2) := by decide +kernel
theorem dX9_spared_32 : decode cX9_spared 32 = .ok (.istore 4, 2) := by decide +kernel
theorem dX9_spared_34 : decode cX9_spared 34 = .ok (.iload 4, 2) := by decide +kernel
theorem dX9_spared_36 : decode cX9_spared 36 = .ok (.ifCond .lt 60, 3) := by decide +kernel
theorem dX9_spared_39 : decode cX9_spared 39 = .ok (.aload_n 0, 1) := by decide +kernel
theorem dX9_spared_40 : decode cX9_spared 40 = .ok (.iload 4, 2) := by decide +kernel
theorem dX9_spared_42 : decode cX9_spared 42 = .ok (.invokevirtual 127, 3) := by decide +kernel
theorem dX9_spared_45 : decode cX9_spared 45 = .ok (.ifCond .eq 45, 3) := by decide +kernel
theorem dX9_spared_48 : decode cX9_spared 48 = .ok (.aload_n 0, 1) := by decide +kernel
theorem dX9_spared_49 : decode cX9_spared 49 = .ok (.getfield 28, 3) := by decide +kernel
theorem dX9_spared_52 : decode cX9_spared 52 = .ok (.iload 4, 2) := by decide +kernel
theorem dX9_spared_54 : decode cX9_spared 54 = .ok (.baload, 1) := by decide +kernel
theorem dX9_spared_55 : decode cX9_spared 55 = .ok (.ifCond .eq 6, 3) := by decide +kernel
theorem dX9_spared_58 : decode cX9_spared 58 = .ok (.goto 32, 3) := by decide +kernel
theorem dX9_spared_61 : decode cX9_spared 61 = .ok (.aload_n 0, 1) := by decide +kernel
theorem dX9_spared_62 : decode cX9_spared 62 = .ok (.iload 4, 2) := by decide +kernel
theorem dX9_spared_64 : decode cX9_spared 64 = .ok (.iconst 1, 1) := by decide +kernel
theorem dX9_spared_65 : decode cX9_spared 65 = .ok (.invokevirtual 130, 3) := by decide +kernel
theorem dX9_spared_68 : decode cX9_spared 68 = .ok (.aload_n 0, 1) := by decide +kernel
theorem dX9_spared_69 : decode cX9_spared 69 = .ok (.iload_n 2, 1) := by decide +kernel
theorem dX9_spared_70 : decode cX9_spared 70 = .ok (.invokevirtual 237, 3) := by decide +kernel
theorem dX9_spared_73 : decode cX9_spared 73 = .ok (.iload_n 1, 1) := by decide +kernel
theorem dX9_spared_74 : decode cX9_spared 74 = .ok (.ishr, 1) := by decide +kernel
theorem dX9_spared_75 : decode cX9_spared 75 = .ok (.iconst 1, 1) := by decide +kernel
theorem dX9_spared_76 : decode cX9_spared 76 = .ok (.iand, 1) := by decide +kernel
theorem dX9_spared_77 : decode cX9_spared 77 = .ok (.ifCond .ne 6, 3) := by decide +kernel
theorem dX9_spared_80 : decode cX9_spared 80 = .ok (.iload 4, 2) := by decide +kernel
theorem dX9_spared_82 : decode cX9_spared 82 = .ok (.istore_n 3, 1) := by decide +kernel
theorem dX9_spared_83 : decode cX9_spared 83 = .ok (.aload_n 0, 1) := by decide +kernel
theorem dX9_spared_84 : decode cX9_spared 84 = .ok (.iload 4, 2) := by decide +kernel
theorem dX9_spared_86 : decode cX9_spared 86 = .ok (.iconst 0, 1) := by decide +kernel
theorem dX9_spared_87 : decode cX9_spared 87 = .ok (.invokevirtual 130, 3) := by decide +kernel
theorem dX9_spared_90 : decode cX9_spared 90 = .ok (.iinc 4 (-1), 3) := by decide +kernel
theorem dX9_spared_93 : decode cX9_spared 93 = .ok (.goto (-59), 3) := by decide +kernel
theorem dX9_spared_96 : decode cX9_spared 96 = .ok (.iload_n 3, 1) := by decide +kernel
theorem dX9_spared_97 : decode cX9_spared 97 = .ok (.ireturn, 1) := by decide +kernel
theorem dX9_wanting_0 : decode cX9_wanting 0 = .ok (.aload_n 0, 1) := by decide +kernel
theorem dX9_wanting_1 : decode cX9_wanting 1 = .ok (.iload_n 1, 1) := by decide +kernel
theorem dX9_wanting_2 : decode cX9_wanting 2 = .ok (.invokevirtual 97, 3) := by decide +kernel
theorem dX9_wanting_5 : decode cX9_wanting 5 = .ok (.ifCond .ne 9, 3) := by decide +kernel
theorem dX9_wanting_8 : decode cX9_wanting 8 = .ok (.aload_n 0, 1) := by decide +kernel
theorem dX9_wanting_9 : decode cX9_wanting 9 = .ok (.iconst (-1), 1) := by decide +kernel
theorem dX9_wanting_10 : decode cX9_wanting 10 = .ok (.invokevirtual 240, 3) := by decide +kernel
theorem dX9_wanting_13 : decode cX9_wanting 13 = .ok (.ireturn, 1) := by decide +kernel
theorem dX9_wanting_14 : decode cX9_wanting 14 = .ok (.iload_n 3, 1) := by decide +kernel
theorem dX9_wanting_15 : decode cX9_wanting 15 = .ok (.iconst 0, 1) := by decide +kernel
theorem dX9_wanting_16 : decode cX9_wanting 16 = .ok (.iconst 1, 1) := by decide +kernel
theorem dX9_wanting_17 : decode cX9_wanting 17 = .ok (.invokestatic 86, 3) := by decide +kernel
theorem dX9_wanting_20 : decode cX9_wanting 20 = .ok (.ifCond .ne 10, 3) := by decide +kernel
theorem dX9_wanting_23 : decode cX9_wanting 23 = .ok (.aload_n 0, 1) := by decide +kernel
theorem dX9_wanting_24 : decode cX9_wanting 24 = .ok (.bipush (-5), 2) := by decide +kernel
theorem dX9_wanting_26 : decode cX9_wanting 26 = .ok (.invokevirtual 240, 3) := by decide +kernel
theorem dX9_wanting_29 : decode cX9_wanting 29 = .ok (.ireturn, 1) := by decide +kernel
theorem dX9_wanting_30 : decode cX9_wanting 30 = .ok (.iload_n 2, 1) := by decide +kernel
theorem dX9_wanting_31 : decode cX9_wanting 31 = .ok (.invokestatic 231, 3) := by decide +kernel
theorem dX9_wanting_34 : decode cX9_wanting 34 = .ok (.ifCond .ne 10, 3) := by decide +kernel
theorem dX9_wanting_37 : decode cX9_wanting 37 = .ok (.aload_n 0, 1) := by decide +kernel
theorem dX9_wanting_38 : decode cX9_wanting 38 = .ok (.bipush (-6), 2) := by decide +kernel
theorem dX9_wanting_40 : decode cX9_wanting 40 = .ok (.invokevirtual 240, 3) := by decide +kernel
theorem dX9_wanting_43 : decode cX9_wanting 43 = .ok (.ireturn, 1) := by decide +kernel
theorem dX9_wanting_44 : decode cX9_wanting 44 = .ok (.aload_n 0, 1) := by decide +kernel
theorem dX9_wanting_45 : decode cX9_wanting 45 = .ok (.getfield 16, 3) := by decide +kernel
theorem dX9_wanting_48 : decode cX9_wanting 48 = .ok (.iload_n 1, 1) := by decide +kernel
theorem dX9_wanting_49 : decode cX9_wanting 49 = .ok (.iaload, 1) := by decide +kernel
theorem dX9_wanting_50 : decode cX9_wanting 50 = .ok (.istore 4, 2) := by decide +kernel
theorem dX9_wanting_52 : decode cX9_wanting 52 = .ok (.iconst (-1), 1) := by decide +kernel
theorem dX9_wanting_53 : decode cX9_wanting 53 = .ok (.istore 5, 2) := by decide +kernel
theorem dX9_wanting_55 : decode cX9_wanting 55 = .ok (.iconst 0, 1) := by decide +kernel
theorem dX9_wanting_56 : decode cX9_wanting 56 = .ok (.istore 6, 2) := by decide +kernel
theorem dX9_wanting_58 : decode cX9_wanting 58 = .ok (.iload 6, 2) := by decide +kernel
theorem dX9_wanting_60 : decode cX9_wanting 60 = .ok (.bipush 20, 2) := by decide +kernel
theorem dX9_wanting_62 : decode cX9_wanting 62 = .ok (.if_icmp .gt 50, 3) := by decide +kernel
theorem dX9_wanting_65 : decode cX9_wanting 65 = .ok (.iload_n 3, 1) := by decide +kernel
theorem dX9_wanting_66 : decode cX9_wanting 66 = .ok (.ifCond .ne 11, 3) := by decide +kernel
theorem dX9_wanting_69 : decode cX9_wanting 69 = .ok (.bipush 20, 2) := by decide +kernel
theorem dX9_wanting_71 : decode cX9_wanting 71 = .ok (.iload 6, 2) := by decide +kernel
theorem dX9_wanting_73 : decode cX9_wanting 73 = .ok (.isub, 1) := by decide +kernel
theorem dX9_wanting_74 : decode cX9_wanting 74 = .ok (.goto 5, 3) := by decide +kernel
theorem dX9_wanting_77 : decode cX9_wanting 77 = .ok (.iload 6, 2) := by decide +kernel
theorem dX9_wanting_79 : decode cX9_wanting 79 = .ok (.istore 7, 2) := by decide +kernel
theorem dX9_wanting_81 : decode cX9_wanting 81 = .ok (.aload_n 0, 1) := by decide +kernel
theorem dX9_wanting_82 : decode cX9_wanting 82 = .ok (.getfield 16, 3) := by decide +kernel
theorem dX9_wanting_85 : decode cX9_wanting 85 = .ok (.iload_n 1, 1) := by decide +kernel
theorem dX9_wanting_86 : decode cX9_wanting 86 = .ok (.iload 7, 2) := by decide +kernel
theorem dX9_wanting_88 : decode cX9_wanting 88 = .ok (.iastore, 1) := by decide +kernel
theorem dX9_wanting_89 : decode cX9_wanting 89 = .ok (.aload_n 0, 1) := by decide +kernel
theorem dX9_wanting_90 : decode cX9_wanting 90 = .ok (.iload_n 2, 1) := by decide +kernel
theorem dX9_wanting_91 : decode cX9_wanting 91 = .ok (.invokevirtual 237, 3) := by decide +kernel
theorem dX9_wanting_94 : decode cX9_wanting 94 = .ok (.iload_n 1, 1) := by decide +kernel
theorem dX9_wanting_95 : decode cX9_wanting 95 = .ok (.ishr, 1) := by decide +kernel
theorem dX9_wanting_96 : decode cX9_wanting 96 = .ok (.iconst 1, 1) := by decide +kernel
theorem dX9_wanting_97 : decode cX9_wanting 97 = .ok (.iand, 1) := by decide +kernel
theorem dX9_wanting_98 : decode cX9_wanting 98 = .ok (.iconst 1, 1) := by decide +kernel
theorem dX9_wanting_99 : decode cX9_wanting 99 = .ok (.if_icmp .ne 7, 3) := by decide +kernel
theorem dX9_wanting_102 : decode cX9_wanting 102 = .ok (.iload 7, 2) := by decide +kernel
theorem dX9_wanting_104 : decode cX9_wanting 104 = .ok (.istore 5, 2) := by decide +kernel
theorem dX9_wanting_106 : decode cX9_wanting 106 = .ok (.iinc 6 1, 3) := by decide +kernel
theorem dX9_wanting_109 : decode cX9_wanting 109 = .ok (.goto (-51), 3) := by decide +kernel
theorem dX9_wanting_112 : decode cX9_wanting 112 = .ok (.aload_n 0, 1) := by decide +kernel
theorem dX9_wanting_113 : decode cX9_wanting 113 = .ok (.getfield 16, 3) := by decide +kernel
theorem dX9_wanting_116 : decode cX9_wanting 116 = .ok (.iload_n 1, 1) := by decide +kernel
theorem dX9_wanting_117 : decode cX9_wanting 117 = .ok (.iload 4, 2) := by decide +kernel
theorem dX9_wanting_119 : decode cX9_wanting 119 = .ok (.iastore, 1) := by decide +kernel
theorem dX9_wanting_120 : decode cX9_wanting 120 = .ok (.iload 5, 2) := by decide +kernel
theorem dX9_wanting_122 : decode cX9_wanting 122 = .ok (.ireturn, 1) := by decide +kernel
theorem dX9_without_0 : decode cX9_without 0 = .ok (.aload_n 0, 1) := by decide +kernel
theorem dX9_without_1 : decode cX9_without 1 = .ok (.iload_n 1, 1) := by decide +kernel
theorem dX9_without_2 : decode cX9_without 2 = .ok (.invokevirtual 97, 3) := by decide +kernel
theorem dX9_without_5 : decode cX9_without 5 = .ok (.ifCond .ne 9, 3) := by decide +kernel
theorem dX9_without_8 : decode cX9_without 8 = .ok (.aload_n 0, 1) := by decide +kernel
theorem dX9_without_9 : decode cX9_without 9 = .ok (.iconst (-1), 1) := by decide +kernel
theorem dX9_without_10 : decode cX9_without 10 = .ok (.invokevirtual 79, 3) := by decide +kernel
theorem dX9_without_13 : decode cX9_without 13 = .ok (.ireturn, 1) := by decide +kernel
theorem dX9_without_14 : decode cX9_without 14 = .ok (.iload_n 2, 1) := by decide +kernel
theorem dX9_without_15 : decode cX9_without 15 = .ok (.invokestatic 231, 3) := by decide +kernel
theorem dX9_without_18 : decode cX9_without 18 = .ok (.ifCond .ne 10, 3) := by decide +kernel
theorem dX9_without_21 : decode cX9_without 21 = .ok (.aload_n 0, 1) := by decide +kernel
theorem dX9_without_22 : decode cX9_without 22 = .ok (.bipush (-6), 2) := by decide +kernel
theorem dX9_without_24 : decode cX9_without 24 = .ok (.invokevirtual 79, 3) := by decide +kernel
theorem dX9_without_27 : decode cX9_without 27 = .ok (.ireturn, 1) := by decide +kernel
theorem dX9_without_28 : decode cX9_without 28 = .ok (.aload_n 0, 1) := by decide +kernel
theorem dX9_without_29 : decode cX9_without 29 = .ok (.iload_n 1, 1) := by decide +kernel
theorem dX9_without_30 : decode cX9_without 30 = .ok (.putfield 73, 3) := by decide +kernel
theorem dX9_without_33 : decode cX9_without 33 = .ok (.aload_n 0, 1) := by decide +kernel
theorem dX9_without_34 : decode cX9_without 34 = .ok (.iload_n 2, 1) := by decide +kernel
theorem dX9_without_35 : decode cX9_without 35 = .ok (.invokevirtual 237, 3) := by decide +kernel
theorem dX9_without_38 : decode cX9_without 38 = .ok (.istore_n 3, 1) := by decide +kernel
theorem dX9_without_39 : decode cX9_without 39 = .ok (.aload_n 0, 1) := by decide +kernel
theorem dX9_without_40 : decode cX9_without 40 = .ok (.iconst (-1), 1) := by decide +kernel
theorem dX9_without_41 : decode cX9_without 41 = .ok (.putfield 73, 3) := by decide +kernel
theorem dX9_without_44 : decode cX9_without 44 = .ok (.iload_n 3, 1) := by decide +kernel
theorem dX9_without_45 : decode cX9_without 45 = .ok (.ireturn, 1) := by decide +kernel
theorem dX9_toldAt_0 : decode cX9_toldAt 0 = .ok (.aload_n 0, 1) := by decide +kernel
theorem dX9_toldAt_1 : decode cX9_toldAt 1 = .ok (.getfield 41, 3) := by decide +kernel
theorem dX9_toldAt_4 : decode cX9_toldAt 4 = .ok (.sipush 160, 3) := by decide +kernel
theorem dX9_toldAt_7 : decode cX9_toldAt 7 = .ok (.iload_n 1, 1) := by decide +kernel
theorem dX9_toldAt_8 : decode cX9_toldAt 8 = .ok (.imul, 1) := by decide +kernel
theorem dX9_toldAt_9 : decode cX9_toldAt 9 = .ok (.iload_n 2, 1) := by decide +kernel
theorem dX9_toldAt_10 : decode cX9_toldAt 10 = .ok (.iadd, 1) := by decide +kernel
theorem dX9_toldAt_11 : decode cX9_toldAt 11 = .ok (.laload, 1) := by decide +kernel
theorem dX9_toldAt_12 : decode cX9_toldAt 12 = .ok (.l2i, 1) := by decide +kernel
theorem dX9_toldAt_13 : decode cX9_toldAt 13 = .ok (.ireturn, 1) := by decide +kernel
theorem dX9_goesSo_0 : decode cX9_goesSo 0 = .ok (.aload_n 0, 1) := by decide +kernel
theorem dX9_goesSo_1 : decode cX9_goesSo 1 = .ok (.aload_n 0, 1) := by decide +kernel
theorem dX9_goesSo_2 : decode cX9_goesSo 2 = .ok (.getfield 66, 3) := by decide +kernel
theorem dX9_goesSo_5 : decode cX9_goesSo 5 = .ok (.invokevirtual 187, 3) := by decide +kernel
theorem dX9_goesSo_8 : decode cX9_goesSo 8 = .ok (.iconst 1, 1) := by decide +kernel
theorem dX9_goesSo_9 : decode cX9_goesSo 9 = .ok (.istore 4, 2) := by decide +kernel
theorem dX9_goesSo_11 : decode cX9_goesSo 11 = .ok (.iconst 0, 1) := by decide +kernel
theorem dX9_goesSo_12 : decode cX9_goesSo 12 = .ok (.istore 5, 2) := by decide +kernel
theorem dX9_goesSo_14 : decode cX9_goesSo 14 = .ok (.iload 5, 2) := by decide +kernel
theorem dX9_goesSo_16 : decode cX9_goesSo 16 = .ok (.iload_n 3, 1) := by decide +kernel
theorem dX9_goesSo_17 : decode cX9_goesSo 17 = .ok (.if_icmp .ge 41, 3) := by decide +kernel
theorem dX9_goesSo_20 : decode cX9_goesSo 20 = .ok (.iload 4, 2) := by decide +kernel
theorem dX9_goesSo_22 : decode cX9_goesSo 22 = .ok (.ifCond .eq 36, 3) := by decide +kernel
theorem dX9_goesSo_25 : decode cX9_goesSo 25 = .ok (.aload_n 0, 1) := by decide +kernel
theorem dX9_goesSo_26 : decode cX9_goesSo 26 = .ok (.invokevirtual 216, 3) := by decide +kernel
theorem dX9_goesSo_29 : decode cX9_goesSo 29 = .ok (.aload_n 0, 1) := by decide +kernel
theorem dX9_goesSo_30 : decode cX9_goesSo 30 = .ok (.getfield 22, 3) := by decide +kernel
theorem dX9_goesSo_33 : decode cX9_goesSo 33 = .ok (.iload_n 2, 1) := by decide +kernel
theorem dX9_goesSo_34 : decode cX9_goesSo 34 = .ok (.iaload, 1) := by decide +kernel
theorem dX9_goesSo_35 : decode cX9_goesSo 35 = .ok (.aload_n 0, 1) := by decide +kernel
theorem dX9_goesSo_36 : decode cX9_goesSo 36 = .ok (.iload_n 1, 1) := by decide +kernel
theorem dX9_goesSo_37 : decode cX9_goesSo 37 = .ok (.iload 5, 2) := by decide +kernel
theorem dX9_goesSo_39 : decode cX9_goesSo 39 = .ok (.invokevirtual 243, 3) := by decide +kernel
theorem dX9_goesSo_42 : decode cX9_goesSo 42 = .ok (.if_icmp .ne 7, 3) := by decide +kernel
theorem dX9_goesSo_45 : decode cX9_goesSo 45 = .ok (.iconst 1, 1) := by decide +kernel
theorem dX9_goesSo_46 : decode cX9_goesSo 46 = .ok (.goto 4, 3) := by decide +kernel
theorem dX9_goesSo_49 : decode cX9_goesSo 49 = .ok (.iconst 0, 1) := by decide +kernel
theorem dX9_goesSo_50 : decode cX9_goesSo 50 = .ok (.istore 4, 2) := by decide +kernel
theorem dX9_goesSo_52 : decode cX9_goesSo 52 = .ok (.iinc 5 1, 3) := by decide +kernel
theorem dX9_goesSo_55 : decode cX9_goesSo 55 = .ok (.goto (-41), 3) := by decide +kernel
theorem dX9_goesSo_58 : decode cX9_goesSo 58 = .ok (.aload_n 0, 1) := by decide +kernel
theorem dX9_goesSo_59 : decode cX9_goesSo 59 = .ok (.aload_n 0, 1) := by decide +kernel
theorem dX9_goesSo_60 : decode cX9_goesSo 60 = .ok (.getfield 66, 3) := by decide +kernel
theorem dX9_goesSo_63 : decode cX9_goesSo 63 = .ok (.invokevirtual 195, 3) := by decide +kernel
theorem dX9_goesSo_66 : decode cX9_goesSo 66 = .ok (.iload 4, 2) := by decide +kernel
theorem dX9_goesSo_68 : decode cX9_goesSo 68 = .ok (.ireturn, 1) := by decide +kernel
theorem dX9_fits_0 : decode cX9_fits 0 = .ok (.iload_n 1, 1) := by decide +kernel
theorem dX9_fits_1 : decode cX9_fits 1 = .ok (.iconst 0, 1) := by decide +kernel
theorem dX9_fits_2 : decode cX9_fits 2 = .ok (.bipush 7, 2) := by decide +kernel
theorem dX9_fits_4 : decode cX9_fits 4 = .ok (.invokestatic 86, 3) := by decide +kernel
theorem dX9_fits_7 : decode cX9_fits 7 = .ok (.ifCond .eq 11, 3) := by decide +kernel
theorem dX9_fits_10 : decode cX9_fits 10 = .ok (.aload_n 0, 1) := by decide +kernel
theorem dX9_fits_11 : decode cX9_fits 11 = .ok (.iload_n 2, 1) := by decide +kernel
theorem dX9_fits_12 : decode cX9_fits 12 = .ok (.invokevirtual 97, 3) := by decide +kernel
theorem dX9_fits_15 : decode cX9_fits 15 = .ok (.ifCond .ne 9, 3) := by decide +kernel
theorem dX9_fits_18 : decode cX9_fits 18 = .ok (.aload_n 0, 1) := by decide +kernel
theorem dX9_fits_19 : decode cX9_fits 19 = .ok (.iconst (-1), 1) := by decide +kernel
theorem dX9_fits_20 : decode cX9_fits 20 = .ok (.invokevirtual 79, 3) := by decide +kernel
theorem dX9_fits_23 : decode cX9_fits 23 = .ok (.ireturn, 1) := by decide +kernel
theorem dX9_fits_24 : decode cX9_fits 24 = .ok (.aload_n 0, 1) := by decide +kernel
theorem dX9_fits_25 : decode cX9_fits 25 = .ok (.iload_n 1, 1) := by decide +kernel
theorem dX9_fits_26 : decode cX9_fits 26 = .ok (.invokevirtual 94, 3) := by decide +kernel
theorem dX9_fits_29 : decode cX9_fits 29 = .ok (.istore 5, 2) := by decide +kernel
theorem dX9_fits_31 : decode cX9_fits 31 = .ok (.iload 5, 2) := by decide +kernel
theorem dX9_fits_33 : decode cX9_fits 33 = .ok (.ifCond .ge 10, 3) := by decide +kernel
theorem dX9_fits_36 : decode cX9_fits 36 = .ok (.aload_n 0, 1) := by decide +kernel
theorem dX9_fits_37 : decode cX9_fits 37 = .ok (.iload 5, 2) := by decide +kernel
theorem dX9_fits_39 : decode cX9_fits 39 = .ok (.invokevirtual 79, 3) := by decide +kernel
theorem dX9_fits_42 : decode cX9_fits 42 = .ok (.ireturn, 1) := by decide +kernel
theorem dX9_fits_43 : decode cX9_fits 43 = .ok (.iload_n 3, 1) := by decide +kernel
theorem dX9_fits_44 : decode cX9_fits 44 = .ok (.ifCond .ge 10, 3) := by decide +kernel
theorem dX9_fits_47 : decode cX9_fits 47 = .ok (.aload_n 0, 1) := by decide +kernel
theorem dX9_fits_48 : decode cX9_fits 48 = .ok (.bipush (-4), 2) := by decide +kernel
theorem dX9_fits_50 : decode cX9_fits 50 = .ok (.invokevirtual 79, 3) := by decide +kernel
theorem dX9_fits_53 : decode cX9_fits 53 = .ok (.ireturn, 1) := by decide +kernel
theorem dX9_fits_54 : decode cX9_fits 54 = .ok (.iload_n 3, 1) := by decide +kernel
theorem dX9_fits_55 : decode cX9_fits 55 = .ok (.aload_n 0, 1) := by decide +kernel
theorem dX9_fits_56 : decode cX9_fits 56 = .ok (.getfield 38, 3) := by decide +kernel
theorem dX9_fits_59 : decode cX9_fits 59 = .ok (.iload_n 1, 1) := by decide +kernel
theorem dX9_fits_60 : decode cX9_fits 60 = .ok (.iaload, 1) := by decide +kernel
theorem dX9_fits_61 : decode cX9_fits 61 = .ok (.if_icmp .gt 13, 3) := by decide +kernel
theorem dX9_fits_64 : decode cX9_fits 64 = .ok (.iload 4, 2) := by decide +kernel
theorem dX9_fits_66 : decode cX9_fits 66 = .ok (.iconst 0, 1) := by decide +kernel
theorem dX9_fits_67 : decode cX9_fits 67 = .ok (.iconst 1, 1) := by decide +kernel
theorem dX9_fits_68 : decode cX9_fits 68 = .ok (.invokestatic 86, 3) := by decide +kernel
theorem dX9_fits_71 : decode cX9_fits 71 = .ok (.ifCond .ne 10, 3) := by decide +kernel
theorem dX9_fits_74 : decode cX9_fits 74 = .ok (.aload_n 0, 1) := by decide +kernel
theorem dX9_fits_75 : decode cX9_fits 75 = .ok (.bipush (-5), 2) := by decide +kernel
theorem dX9_fits_77 : decode cX9_fits 77 = .ok (.invokevirtual 79, 3) := by decide +kernel
theorem dX9_fits_80 : decode cX9_fits 80 = .ok (.ireturn, 1) := by decide +kernel
theorem dX9_fits_81 : decode cX9_fits 81 = .ok (.iload_n 3, 1) := by decide +kernel
theorem dX9_fits_82 : decode cX9_fits 82 = .ok (.bipush 30, 2) := by decide +kernel
theorem dX9_fits_84 : decode cX9_fits 84 = .ok (.if_icmp .le 10, 3) := by decide +kernel
theorem dX9_fits_87 : decode cX9_fits 87 = .ok (.aload_n 0, 1) := by decide +kernel
theorem dX9_fits_88 : decode cX9_fits 88 = .ok (.bipush (-6), 2) := by decide +kernel
theorem dX9_fits_90 : decode cX9_fits 90 = .ok (.invokevirtual 79, 3) := by decide +kernel
theorem dX9_fits_93 : decode cX9_fits 93 = .ok (.ireturn, 1) := by decide +kernel
theorem dX9_fits_94 : decode cX9_fits 94 = .ok (.iload 4, 2) := by decide +kernel
theorem dX9_fits_96 : decode cX9_fits 96 = .ok (.ifCond .ne 12, 3) := by decide +kernel
theorem dX9_fits_99 : decode cX9_fits 99 = .ok (.aload_n 0, 1) := by decide +kernel
theorem dX9_fits_100 : decode cX9_fits 100 = .ok (.getfield 16, 3) := by decide +kernel
theorem dX9_fits_103 : decode cX9_fits 103 = .ok (.iload_n 2, 1) := by decide +kernel
theorem dX9_fits_104 : decode cX9_fits 104 = .ok (.iaload, 1) := by decide +kernel
theorem dX9_fits_105 : decode cX9_fits 105 = .ok (.goto 9, 3) := by decide +kernel
theorem dX9_fits_108 : decode cX9_fits 108 = .ok (.aload_n 0, 1) := by decide +kernel
theorem dX9_fits_109 : decode cX9_fits 109 = .ok (.getfield 7, 3) := by decide +kernel
theorem dX9_fits_112 : decode cX9_fits 112 = .ok (.iload_n 2, 1) := by decide +kernel
theorem dX9_fits_113 : decode cX9_fits 113 = .ok (.iaload, 1) := by decide +kernel
theorem dX9_fits_114 : decode cX9_fits 114 = .ok (.istore 6, 2) := by decide +kernel
theorem dX9_fits_116 : decode cX9_fits 116 = .ok (.iconst 0, 1) := by decide +kernel
theorem dX9_fits_117 : decode cX9_fits 117 = .ok (.istore 7, 2) := by decide +kernel
theorem dX9_fits_119 : decode cX9_fits 119 = .ok (.iconst 0, 1) := by decide +kernel
theorem dX9_fits_120 : decode cX9_fits 120 = .ok (.istore 8, 2) := by decide +kernel
theorem dX9_fits_122 : decode cX9_fits 122 = .ok (.iload 8, 2) := by decide +kernel
theorem dX9_fits_124 : decode cX9_fits 124 = .ok (.iload 4, 2) := by decide +kernel
theorem dX9_fits_126 : decode cX9_fits 126 = .ok (.ifCond .ne 8, 3) := by decide +kernel
theorem dX9_fits_129 : decode cX9_fits 129 = .ok (.bipush 20, 2) := by decide +kernel
theorem dX9_fits_131 : decode cX9_fits 131 = .ok (.goto 5, 3) := by decide +kernel
theorem dX9_fits_134 : decode cX9_fits 134 = .ok (.bipush 6, 2) := by decide +kernel
theorem dX9_fits_136 : decode cX9_fits 136 = .ok (.if_icmp .gt 52, 3) := by decide +kernel
theorem dX9_fits_139 : decode cX9_fits 139 = .ok (.iload 4, 2) := by decide +kernel
theorem dX9_fits_141 : decode cX9_fits 141 = .ok (.ifCond .ne 14, 3) := by decide +kernel
theorem dX9_fits_144 : decode cX9_fits 144 = .ok (.aload_n 0, 1) := by decide +kernel
theorem dX9_fits_145 : decode cX9_fits 145 = .ok (.getfield 16, 3) := by decide +kernel
theorem dX9_fits_148 : decode cX9_fits 148 = .ok (.iload_n 2, 1) := by decide +kernel
theorem dX9_fits_149 : decode cX9_fits 149 = .ok (.iload 8, 2) := by decide +kernel
theorem dX9_fits_151 : decode cX9_fits 151 = .ok (.iastore, 1) := by decide +kernel
theorem dX9_fits_152 : decode cX9_fits 152 = .ok (.goto 11, 3) := by decide +kernel
theorem dX9_fits_155 : decode cX9_fits 155 = .ok (.aload_n 0, 1) := by decide +kernel
theorem dX9_fits_156 : decode cX9_fits 156 = .ok (.getfield 7, 3) := by decide +kernel
theorem dX9_fits_159 : decode cX9_fits 159 = .ok (.iload_n 2, 1) := by decide +kernel
theorem dX9_fits_160 : decode cX9_fits 160 = .ok (.iload 8, 2) := by decide +kernel
theorem dX9_fits_162 : decode cX9_fits 162 = .ok (.iastore, 1) := by decide +kernel
theorem dX9_fits_163 : decode cX9_fits 163 = .ok (.aload_n 0, 1) := by decide +kernel
theorem dX9_fits_164 : decode cX9_fits 164 = .ok (.iload_n 1, 1) := by decide +kernel
theorem dX9_fits_165 : decode cX9_fits 165 = .ok (.iload_n 2, 1) := by decide +kernel
theorem dX9_fits_166 : decode cX9_fits 166 = .ok (.iload_n 3, 1) := by decide +kernel
theorem dX9_fits_167 : decode cX9_fits 167 = .ok (.invokevirtual 246, 3) := by decide +kernel
theorem dX9_fits_170 : decode cX9_fits 170 = .ok (.ifCond .eq 12, 3) := by decide +kernel
theorem dX9_fits_173 : decode cX9_fits 173 = .ok (.iload 7, 2) := by decide +kernel
theorem dX9_fits_175 : decode cX9_fits 175 = .ok (.iconst 1, 1) := by decide +kernel
theorem dX9_fits_176 : decode cX9_fits 176 = .ok (.iload 8, 2) := by decide +kernel
theorem dX9_fits_178 : decode cX9_fits 178 = .ok (.ishl, 1) := by decide +kernel
theorem dX9_fits_179 : decode cX9_fits 179 = .ok (.ior, 1) := by decide +kernel
theorem dX9_fits_180 : decode cX9_fits 180 = .ok (.istore 7, 2) := by decide +kernel
theorem dX9_fits_182 : decode cX9_fits 182 = .ok (.iinc 8 1, 3) := by decide +kernel
theorem dX9_fits_185 : decode cX9_fits 185 = .ok (.goto (-63), 3) := by decide +kernel
theorem dX9_fits_188 : decode cX9_fits 188 = .ok (.iload 4, 2) := by decide +kernel
theorem dX9_fits_190 : decode cX9_fits 190 = .ok (.ifCond .ne 14, 3) := by decide +kernel
theorem dX9_fits_193 : decode cX9_fits 193 = .ok (.aload_n 0, 1) := by decide +kernel
theorem dX9_fits_194 : decode cX9_fits 194 = .ok (.getfield 16, 3) := by decide +kernel
theorem dX9_fits_197 : decode cX9_fits 197 = .ok (.iload_n 2, 1) := by decide +kernel
theorem dX9_fits_198 : decode cX9_fits 198 = .ok (.iload 6, 2) := by decide +kernel
theorem dX9_fits_200 : decode cX9_fits 200 = .ok (.iastore, 1) := by decide +kernel
theorem dX9_fits_201 : decode cX9_fits 201 = .ok (.goto 11, 3) := by decide +kernel
theorem dX9_fits_204 : decode cX9_fits 204 = .ok (.aload_n 0, 1) := by decide +kernel
theorem dX9_fits_205 : decode cX9_fits 205 = .ok (.getfield 7, 3) := by decide +kernel
theorem dX9_fits_208 : decode cX9_fits 208 = .ok (.iload_n 2, 1) := by decide +kernel
theorem dX9_fits_209 : decode cX9_fits 209 = .ok (.iload 6, 2) := by decide +kernel
theorem dX9_fits_211 : decode cX9_fits 211 = .ok (.iastore, 1) := by decide +kernel
theorem dX9_fits_212 : decode cX9_fits 212 = .ok (.iload 7, 2) := by decide +kernel
theorem dX9_fits_214 : decode cX9_fits 214 = .ok (.ireturn, 1) := by decide +kernel
theorem dX9_ledTo_0 : decode cX9_ledTo 0 = .ok (.aload_n 0, 1) := by decide +kernel
theorem dX9_ledTo_1 : decode cX9_ledTo 1 = .ok (.getfield 16, 3) := by decide +kernel
theorem dX9_ledTo_4 : decode cX9_ledTo 4 = .ok (.iload_n 1, 1) := by decide +kernel
theorem dX9_ledTo_5 : decode cX9_ledTo 5 = .ok (.iaload, 1) := by decide +kernel
theorem dX9_ledTo_6 : decode cX9_ledTo 6 = .ok (.istore_n 3, 1) := by decide +kernel
theorem dX9_ledTo_7 : decode cX9_ledTo 7 = .ok (.lconst 0, 1) := by decide +kernel
theorem dX9_ledTo_8 : decode cX9_ledTo 8 = .ok (.lstore 4, 2) := by decide +kernel
theorem dX9_ledTo_10 : decode cX9_ledTo 10 = .ok (.iconst 0, 1) := by decide +kernel
theorem dX9_ledTo_11 : decode cX9_ledTo 11 = .ok (.istore 6, 2) := by decide +kernel
theorem dX9_ledTo_13 : decode cX9_ledTo 13 = .ok (.iload 6, 2) := by decide +kernel
theorem dX9_ledTo_15 : decode cX9_ledTo 15 = .ok (.bipush 20, 2) := by decide +kernel
theorem dX9_ledTo_17 : decode cX9_ledTo 17 = .ok (.if_icmp .gt 51, 3) := by decide +kernel
theorem dX9_ledTo_20 : decode cX9_ledTo 20 = .ok (.aload_n 0, 1) := by decide +kernel
theorem dX9_ledTo_21 : decode cX9_ledTo 21 = .ok (.aload_n 0, 1) := by decide +kernel
theorem dX9_ledTo_22 : decode cX9_ledTo 22 = .ok (.getfield 66, 3) := by decide +kernel
theorem dX9_ledTo_25 : decode cX9_ledTo 25 = .ok (.invokevirtual 187, 3) := by decide +kernel
theorem dX9_ledTo_28 : decode cX9_ledTo 28 = .ok (.aload_n 0, 1) := by decide +kernel
theorem dX9_ledTo_29 : decode cX9_ledTo 29 = .ok (.getfield 16, 3) := by decide +kernel
theorem dX9_ledTo_32 : decode cX9_ledTo 32 = .ok (.iload_n 1, 1) := by decide +kernel
theorem dX9_ledTo_33 : decode cX9_ledTo 33 = .ok (.iload 6, 2) := by decide +kernel
theorem dX9_ledTo_35 : decode cX9_ledTo 35 = .ok (.iastore, 1) := by decide +kernel
theorem dX9_ledTo_36 : decode cX9_ledTo 36 = .ok (.aload_n 0, 1) := by decide +kernel
theorem dX9_ledTo_37 : decode cX9_ledTo 37 = .ok (.iload_n 2, 1) := by decide +kernel
theorem dX9_ledTo_38 : decode cX9_ledTo 38 = .ok (.invokevirtual 234, 3) := by decide +kernel
theorem dX9_ledTo_41 : decode cX9_ledTo 41 = .ok (.lload 4, 2) := by decide +kernel
theorem dX9_ledTo_43 : decode cX9_ledTo 43 = .ok (.lconst 1, 1) := by decide +kernel
theorem dX9_ledTo_44 : decode cX9_ledTo 44 = .ok (.aload_n 0, 1) := by decide +kernel
theorem dX9_ledTo_45 : decode cX9_ledTo 45 = .ok (.getfield 22, 3) := by decide +kernel
theorem dX9_ledTo_48 : decode cX9_ledTo 48 = .ok (.iload_n 1, 1) := by decide +kernel
theorem dX9_ledTo_49 : decode cX9_ledTo 49 = .ok (.iaload, 1) := by decide +kernel
theorem dX9_ledTo_50 : decode cX9_ledTo 50 = .ok (.lshl, 1) := by decide +kernel
theorem dX9_ledTo_51 : decode cX9_ledTo 51 = .ok (.lor, 1) := by decide +kernel
theorem dX9_ledTo_52 : decode cX9_ledTo 52 = .ok (.lstore 4, 2) := by decide +kernel
theorem dX9_ledTo_54 : decode cX9_ledTo 54 = .ok (.aload_n 0, 1) := by decide +kernel
theorem dX9_ledTo_55 : decode cX9_ledTo 55 = .ok (.aload_n 0, 1) := by decide +kernel
theorem dX9_ledTo_56 : decode cX9_ledTo 56 = .ok (.getfield 66, 3) := by decide +kernel
theorem dX9_ledTo_59 : decode cX9_ledTo 59 = .ok (.invokevirtual 195, 3) := by decide +kernel
theorem dX9_ledTo_62 : decode cX9_ledTo 62 = .ok (.iinc 6 1, 3) := by decide +kernel
theorem dX9_ledTo_65 : decode cX9_ledTo 65 = .ok (.goto (-52), 3) := by decide +kernel
theorem dX9_ledTo_68 : decode cX9_ledTo 68 = .ok (.aload_n 0, 1) := by decide +kernel
theorem dX9_ledTo_69 : decode cX9_ledTo 69 = .ok (.getfield 16, 3) := by decide +kernel
theorem dX9_ledTo_72 : decode cX9_ledTo 72 = .ok (.iload_n 1, 1) := by decide +kernel
theorem dX9_ledTo_73 : decode cX9_ledTo 73 = .ok (.iload_n 3, 1) := by decide +kernel
theorem dX9_ledTo_74 : decode cX9_ledTo 74 = .ok (.iastore, 1) := by decide +kernel
theorem dX9_ledTo_75 : decode cX9_ledTo 75 = .ok (.lload 4, 2) := by decide +kernel
theorem dX9_ledTo_77 : decode cX9_ledTo 77 = .ok (.invokestatic 249, 3) := by decide +kernel
theorem dX9_ledTo_80 : decode cX9_ledTo 80 = .ok (.ireturn, 1) := by decide +kernel
theorem dX9_tells_0 : decode cX9_tells 0 = .ok (.aload_n 0, 1) := by decide +kernel
theorem dX9_tells_1 : decode cX9_tells 1 = .ok (.iload_n 1, 1) := by decide +kernel
theorem dX9_tells_2 : decode cX9_tells 2 = .ok (.invokevirtual 97, 3) := by decide +kernel
theorem dX9_tells_5 : decode cX9_tells 5 = .ok (.ifCond .ne 9, 3) := by decide +kernel
theorem dX9_tells_8 : decode cX9_tells 8 = .ok (.aload_n 0, 1) := by decide +kernel
theorem dX9_tells_9 : decode cX9_tells 9 = .ok (.iconst (-1), 1) := by decide +kernel
theorem dX9_tells_10 : decode cX9_tells 10 = .ok (.invokevirtual 79, 3) := by decide +kernel
theorem dX9_tells_13 : decode cX9_tells 13 = .ok (.ireturn, 1) := by decide +kernel
theorem dX9_tells_14 : decode cX9_tells 14 = .ok (.iload_n 2, 1) := by decide +kernel
theorem dX9_tells_15 : decode cX9_tells 15 = .ok (.iconst 0, 1) := by decide +kernel
theorem dX9_tells_16 : decode cX9_tells 16 = .ok (.iconst 1, 1) := by decide +kernel
theorem dX9_tells_17 : decode cX9_tells 17 = .ok (.invokestatic 86, 3) := by decide +kernel
theorem dX9_tells_20 : decode cX9_tells 20 = .ok (.ifCond .ne 10, 3) := by decide +kernel
theorem dX9_tells_23 : decode cX9_tells 23 = .ok (.aload_n 0, 1) := by decide +kernel
theorem dX9_tells_24 : decode cX9_tells 24 = .ok (.bipush (-5), 2) := by decide +kernel
theorem dX9_tells_26 : decode cX9_tells 26 = .ok (.invokevirtual 79, 3) := by decide +kernel
theorem dX9_tells_29 : decode cX9_tells 29 = .ok (.ireturn, 1) := by decide +kernel
theorem dX9_tells_30 : decode cX9_tells 30 = .ok (.iconst 0, 1) := by decide +kernel
theorem dX9_tells_31 : decode cX9_tells 31 = .ok (.istore_n 3, 1) := by decide +kernel
theorem dX9_tells_32 : decode cX9_tells 32 = .ok (.iconst 0, 1) := by decide +kernel
theorem dX9_tells_33 : decode cX9_tells 33 = .ok (.istore 4, 2) := by decide +kernel
theorem dX9_tells_35 : decode cX9_tells 35 = .ok (.iconst 1, 1) := by decide +kernel
theorem dX9_tells_36 : decode cX9_tells 36 = .ok (.istore 5, 2) := by decide +kernel
theorem dX9_tells_38 : decode cX9_tells 38 = .ok (.iload 5, 2) := by decide +kernel
theorem dX9_tells_40 : decode cX9_tells 40 = .ok (.bipush 30, 2) := by decide +kernel
theorem dX9_tells_42 : decode cX9_tells 42 = .ok (.if_icmp .gt 35, 3) := by decide +kernel
theorem dX9_tells_45 : decode cX9_tells 45 = .ok (.aload_n 0, 1) := by decide +kernel
theorem dX9_tells_46 : decode cX9_tells 46 = .ok (.iload_n 1, 1) := by decide +kernel
theorem dX9_tells_47 : decode cX9_tells 47 = .ok (.iload 5, 2) := by decide +kernel
theorem dX9_tells_49 : decode cX9_tells 49 = .ok (.invokevirtual 255, 3) := by decide +kernel
theorem dX9_tells_52 : decode cX9_tells 52 = .ok (.istore 6, 2) := by decide +kernel
theorem dX9_tells_54 : decode cX9_tells 54 = .ok (.iload 6, 2) := by decide +kernel
theorem dX9_tells_56 : decode cX9_tells 56 = .ok (.iload 4, 2) := by decide +kernel
theorem dX9_tells_58 : decode cX9_tells 58 = .ok (.if_icmp .gt 6, 3) := by decide +kernel
theorem dX9_tells_61 : decode cX9_tells 61 = .ok (.goto 10, 3) := by decide +kernel
theorem dX9_tells_64 : decode cX9_tells 64 = .ok (.iload 6, 2) := by decide +kernel
theorem dX9_tells_66 : decode cX9_tells 66 = .ok (.istore 4, 2) := by decide +kernel
theorem dX9_tells_68 : decode cX9_tells 68 = .ok (.iload 5, 2) := by decide +kernel
theorem dX9_tells_70 : decode cX9_tells 70 = .ok (.istore_n 3, 1) := by decide +kernel
theorem dX9_tells_71 : decode cX9_tells 71 = .ok (.iinc 5 1, 3) := by decide +kernel
theorem dX9_tells_74 : decode cX9_tells 74 = .ok (.goto (-36), 3) := by decide +kernel
theorem dX9_tells_77 : decode cX9_tells 77 = .ok (.iload_n 2, 1) := by decide +kernel
theorem dX9_tells_78 : decode cX9_tells 78 = .ok (.ifCond .ne 7, 3) := by decide +kernel
theorem dX9_tells_81 : decode cX9_tells 81 = .ok (.iload_n 3, 1) := by decide +kernel
theorem dX9_tells_82 : decode cX9_tells 82 = .ok (.goto 5, 3) := by decide +kernel
theorem dX9_tells_85 : decode cX9_tells 85 = .ok (.iload 4, 2) := by decide +kernel
theorem dX9_tells_87 : decode cX9_tells 87 = .ok (.ireturn, 1) := by decide +kernel
theorem dX9_areThere_0 : decode cX9_areThere 0 = .ok (.iload_n 1, 1) := by decide +kernel
theorem dX9_areThere_1 : decode cX9_areThere 1 = .ok (.iconst 0, 1) := by decide +kernel
theorem dX9_areThere_2 : decode cX9_areThere 2 = .ok (.iconst 1, 1) := by decide +kernel
theorem dX9_areThere_3 : decode cX9_areThere 3 = .ok (.aload_n 0, 1) := by decide +kernel
theorem dX9_areThere_4 : decode cX9_areThere 4 = .ok (.getfield 83, 3) := by decide +kernel
theorem dX9_areThere_7 : decode cX9_areThere 7 = .ok (.ishl, 1) := by decide +kernel
theorem dX9_areThere_8 : decode cX9_areThere 8 = .ok (.iconst 1, 1) := by decide +kernel
theorem dX9_areThere_9 : decode cX9_areThere 9 = .ok (.isub, 1) := by decide +kernel
theorem dX9_areThere_10 : decode cX9_areThere 10 = .ok (.invokestatic 86, 3) := by decide +kernel
theorem dX9_areThere_13 : decode cX9_areThere 13 = .ok (.ireturn, 1) := by decide +kernel
theorem dX9_weight_0 : decode cX9_weight 0 = .ok (.iconst 0, 1) := by decide +kernel
theorem dX9_weight_1 : decode cX9_weight 1 = .ok (.istore_n 2, 1) := by decide +kernel
theorem dX9_weight_2 : decode cX9_weight 2 = .ok (.iconst 0, 1) := by decide +kernel
theorem dX9_weight_3 : decode cX9_weight 3 = .ok (.istore_n 3, 1) := by decide +kernel
theorem dX9_weight_4 : decode cX9_weight 4 = .ok (.iload_n 3, 1) := by decide +kernel
theorem dX9_weight_5 : decode cX9_weight 5 = .ok (.aload_n 0, 1) := by decide +kernel
theorem dX9_weight_6 : decode cX9_weight 6 = .ok (.getfield 83, 3) := by decide +kernel
theorem dX9_weight_9 : decode cX9_weight 9 = .ok (.if_icmp .ge 29, 3) := by decide +kernel
theorem dX9_weight_12 : decode cX9_weight 12 = .ok (.iload_n 1, 1) := by decide +kernel
theorem dX9_weight_13 : decode cX9_weight 13 = .ok (.iload_n 3, 1) := by decide +kernel
theorem dX9_weight_14 : decode cX9_weight 14 = .ok (.ishr, 1) := by decide +kernel
theorem dX9_weight_15 : decode cX9_weight 15 = .ok (.iconst 1, 1) := by decide +kernel
theorem dX9_weight_16 : decode cX9_weight 16 = .ok (.iand, 1) := by decide +kernel
theorem dX9_weight_17 : decode cX9_weight 17 = .ok (.iconst 1, 1) := by decide +kernel
theorem dX9_weight_18 : decode cX9_weight 18 = .ok (.if_icmp .ne 14, 3) := by decide +kernel
theorem dX9_weight_21 : decode cX9_weight 21 = .ok (.iload_n 2, 1) := by decide +kernel
theorem dX9_weight_22 : decode cX9_weight 22 = .ok (.aload_n 0, 1) := by decide +kernel
theorem dX9_weight_23 : decode cX9_weight 23 = .ok (.getfield 13, 3) := by decide +kernel
theorem dX9_weight_26 : decode cX9_weight 26 = .ok (.iload_n 3, 1) := by decide +kernel
theorem dX9_weight_27 : decode cX9_weight 27 = .ok (.iaload, 1) := by decide +kernel
theorem dX9_weight_28 : decode cX9_weight 28 = .ok (.iconst 1, 1) := by decide +kernel
theorem dX9_weight_29 : decode cX9_weight 29 = .ok (.iadd, 1) := by decide +kernel
theorem dX9_weight_30 : decode cX9_weight 30 = .ok (.iadd, 1) := by decide +kernel
theorem dX9_weight_31 : decode cX9_weight 31 = .ok (.istore_n 2, 1) := by decide +kernel
theorem dX9_weight_32 : decode cX9_weight 32 = .ok (.iinc 3 1, 3) := by decide +kernel
theorem dX9_weight_35 : decode cX9_weight 35 = .ok (.goto (-31), 3) := by decide +kernel
theorem dX9_weight_38 : decode cX9_weight 38 = .ok (.iload_n 2, 1) := by decide +kernel
theorem dX9_weight_39 : decode cX9_weight 39 = .ok (.ireturn, 1) := by decide +kernel
theorem dX9_carry_0 : decode cX9_carry 0 = .ok (.iconst 2, 1) := by decide +kernel
theorem dX9_carry_1 : decode cX9_carry 1 = .ok (.aload_n 0, 1) := by decide +kernel
theorem dX9_carry_2 : decode cX9_carry 2 = .ok (.iload_n 1, 1) := by decide +kernel
theorem dX9_carry_3 : decode cX9_carry 3 = .ok (.invokevirtual 258, 3) := by decide +kernel
theorem dX9_carry_6 : decode cX9_carry 6 = .ok (.imul, 1) := by decide +kernel
theorem dX9_carry_7 : decode cX9_carry 7 = .ok (.aload_n 0, 1) := by decide +kernel
theorem dX9_carry_8 : decode cX9_carry 8 = .ok (.iload_n 2, 1) := by decide +kernel
theorem dX9_carry_9 : decode cX9_carry 9 = .ok (.invokevirtual 258, 3) := by decide +kernel
theorem dX9_carry_12 : decode cX9_carry 12 = .ok (.if_icmp .le 7, 3) := by decide +kernel
theorem dX9_carry_15 : decode cX9_carry 15 = .ok (.iconst 1, 1) := by decide +kernel
theorem dX9_carry_16 : decode cX9_carry 16 = .ok (.goto 4, 3) := by decide +kernel
theorem dX9_carry_19 : decode cX9_carry 19 = .ok (.iconst 0, 1) := by decide +kernel
theorem dX9_carry_20 : decode cX9_carry 20 = .ok (.ireturn, 1) := by decide +kernel
theorem dX9_orders_0 : decode cX9_orders 0 = .ok (.iload_n 0, 1) := by decide +kernel
theorem dX9_orders_1 : decode cX9_orders 1 = .ok (.iconst 2, 1) := by decide +kernel
theorem dX9_orders_2 : decode cX9_orders 2 = .ok (.if_icmp .ge 7, 3) := by decide +kernel
theorem dX9_orders_5 : decode cX9_orders 5 = .ok (.iconst 1, 1) := by decide +kernel
theorem dX9_orders_6 : decode cX9_orders 6 = .ok (.goto 11, 3) := by decide +kernel
theorem dX9_orders_9 : decode cX9_orders 9 = .ok (.iload_n 0, 1) := by decide +kernel
theorem dX9_orders_10 : decode cX9_orders 10 = .ok (.iload_n 0, 1) := by decide +kernel
theorem dX9_orders_11 : decode cX9_orders 11 = .ok (.iconst 1, 1) := by decide +kernel
theorem dX9_orders_12 : decode cX9_orders 12 = .ok (.isub, 1) := by decide +kernel
theorem dX9_orders_13 : decode cX9_orders 13 = .ok (.invokestatic 261, 3) := by decide +kernel
theorem dX9_orders_16 : decode cX9_orders 16 = .ok (.imul, 1) := by decide +kernel
theorem dX9_orders_17 : decode cX9_orders 17 = .ok (.ireturn, 1) := by decide +kernel
theorem dX9_power_0 : decode cX9_power 0 = .ok (.aload_n 0, 1) := by decide +kernel
theorem dX9_power_1 : decode cX9_power 1 = .ok (.iload_n 1, 1) := by decide +kernel
theorem dX9_power_2 : decode cX9_power 2 = .ok (.invokevirtual 97, 3) := by decide +kernel
theorem dX9_power_5 : decode cX9_power 5 = .ok (.ifCond .ne 9, 3) := by decide +kernel
theorem dX9_power_8 : decode cX9_power 8 = .ok (.aload_n 0, 1) := by decide +kernel
theorem dX9_power_9 : decode cX9_power 9 = .ok (.iconst (-1), 1) := by decide +kernel
theorem dX9_power_10 : decode cX9_power 10 = .ok (.invokevirtual 79, 3) := by decide +kernel
theorem dX9_power_13 : decode cX9_power 13 = .ok (.ireturn, 1) := by decide +kernel
theorem dX9_power_14 : decode cX9_power 14 = .ok (.iload_n 2, 1) := by decide +kernel
theorem dX9_power_15 : decode cX9_power 15 = .ok (.iload_n 1, 1) := by decide +kernel
theorem dX9_power_16 : decode cX9_power 16 = .ok (.ishr, 1) := by decide +kernel
theorem dX9_power_17 : decode cX9_power 17 = .ok (.iconst 1, 1) := by decide +kernel
theorem dX9_power_18 : decode cX9_power 18 = .ok (.iand, 1) := by decide +kernel
theorem dX9_power_19 : decode cX9_power 19 = .ok (.ifCond .ne 10, 3) := by decide +kernel
theorem dX9_power_22 : decode cX9_power 22 = .ok (.aload_n 0, 1) := by decide +kernel
theorem dX9_power_23 : decode cX9_power 23 = .ok (.bipush (-5), 2) := by decide +kernel
theorem dX9_power_25 : decode cX9_power 25 = .ok (.invokevirtual 79, 3) := by decide +kernel
theorem dX9_power_28 : decode cX9_power 28 = .ok (.ireturn, 1) := by decide +kernel
theorem dX9_power_29 : decode cX9_power 29 = .ok (.aload_n 0, 1) := by decide +kernel
theorem dX9_power_30 : decode cX9_power 30 = .ok (.iload_n 2, 1) := by decide +kernel
theorem dX9_power_31 : decode cX9_power 31 = .ok (.invokevirtual 264, 3) := by decide +kernel
theorem dX9_power_34 : decode cX9_power 34 = .ok (.ifCond .ne 10, 3) := by decide +kernel
theorem dX9_power_37 : decode cX9_power 37 = .ok (.aload_n 0, 1) := by decide +kernel
theorem dX9_power_38 : decode cX9_power 38 = .ok (.bipush (-6), 2) := by decide +kernel
theorem dX9_power_40 : decode cX9_power 40 = .ok (.invokevirtual 79, 3) := by decide +kernel
theorem dX9_power_43 : decode cX9_power 43 = .ok (.ireturn, 1) := by decide +kernel
theorem dX9_power_44 : decode cX9_power 44 = .ok (.iconst 0, 1) := by decide +kernel
theorem dX9_power_45 : decode cX9_power 45 = .ok (.istore_n 3, 1) := by decide +kernel
theorem dX9_power_46 : decode cX9_power 46 = .ok (.iconst 0, 1) := by decide +kernel
theorem dX9_power_47 : decode cX9_power 47 = .ok (.istore 4, 2) := by decide +kernel
theorem dX9_power_49 : decode cX9_power 49 = .ok (.iload 4, 2) := by decide +kernel
theorem dX9_power_51 : decode cX9_power 51 = .ok (.iload_n 2, 1) := by decide +kernel
theorem dX9_power_52 : decode cX9_power 52 = .ok (.if_icmp .gt 82, 3) := by decide +kernel
theorem dX9_power_55 : decode cX9_power 55 = .ok (.iload 4, 2) := by decide +kernel
theorem dX9_power_57 : decode cX9_power 57 = .ok (.iload_n 2, 1) := by decide +kernel
theorem dX9_power_58 : decode cX9_power 58 = .ok (.iconst (-1), 1) := by decide +kernel
theorem dX9_power_59 : decode cX9_power 59 = .ok (.ixor, 1) := by decide +kernel
theorem dX9_power_60 : decode cX9_power 60 = .ok (.iand, 1) := by decide +kernel
theorem dX9_power_61 : decode cX9_power 61 = .ok (.ifCond .ne 67, 3) := by decide +kernel
theorem dX9_power_64 : decode cX9_power 64 = .ok (.iload 4, 2) := by decide +kernel
theorem dX9_power_66 : decode cX9_power 66 = .ok (.iload_n 1, 1) := by decide +kernel
theorem dX9_power_67 : decode cX9_power 67 = .ok (.ishr, 1) := by decide +kernel
theorem dX9_power_68 : decode cX9_power 68 = .ok (.iconst 1, 1) := by decide +kernel
theorem dX9_power_69 : decode cX9_power 69 = .ok (.iand, 1) := by decide +kernel
theorem dX9_power_70 : decode cX9_power 70 = .ok (.iconst 1, 1) := by decide +kernel
theorem dX9_power_71 : decode cX9_power 71 = .ok (.if_icmp .eq 57, 3) := by decide +kernel
theorem dX9_power_74 : decode cX9_power 74 = .ok (.aload_n 0, 1) := by decide +kernel
theorem dX9_power_75 : decode cX9_power 75 = .ok (.iload 4, 2) := by decide +kernel
theorem dX9_power_77 : decode cX9_power 77 = .ok (.iload_n 2, 1) := by decide +kernel
theorem dX9_power_78 : decode cX9_power 78 = .ok (.invokevirtual 267, 3) := by decide +kernel
theorem dX9_power_81 : decode cX9_power 81 = .ok (.ifCond .ne 47, 3) := by decide +kernel
theorem dX9_power_84 : decode cX9_power 84 = .ok (.aload_n 0, 1) := by decide +kernel
theorem dX9_power_85 : decode cX9_power 85 = .ok (.iload 4, 2) := by decide +kernel
theorem dX9_power_87 : decode cX9_power 87 = .ok (.iconst 1, 1) := by decide +kernel
theorem dX9_power_88 : decode cX9_power 88 = .ok (.iload_n 1, 1) := by decide +kernel
theorem dX9_power_89 : decode cX9_power 89 = .ok (.ishl, 1) := by decide +kernel
theorem dX9_power_90 : decode cX9_power 90 = .ok (.ior, 1) := by decide +kernel
theorem dX9_power_91 : decode cX9_power 91 = .ok (.iload_n 2, 1) := by decide +kernel
theorem dX9_power_92 : decode cX9_power 92 = .ok (.invokevirtual 267, 3) := by decide +kernel
theorem dX9_power_95 : decode cX9_power 95 = .ok (.ifCond .ne 6, 3) := by decide +kernel
theorem dX9_power_98 : decode cX9_power 98 = .ok (.goto 30, 3) := by decide +kernel
theorem dX9_power_101 : decode cX9_power 101 = .ok (.iload_n 3, 1) := by decide +kernel
theorem dX9_power_102 : decode cX9_power 102 = .ok (.iload 4, 2) := by decide +kernel
theorem dX9_power_104 : decode cX9_power 104 = .ok (.invokestatic 270, 3) := by decide +kernel
theorem dX9_power_107 : decode cX9_power 107 = .ok (.invokestatic 261, 3) := by decide +kernel
theorem dX9_power_110 : decode cX9_power 110 = .ok (.iload_n 2, 1) := by decide +kernel
theorem dX9_power_111 : decode cX9_power 111 = .ok (.invokestatic 270, 3) := by decide +kernel
theorem dX9_power_114 : decode cX9_power 114 = .ok (.iload 4, 2) := by decide +kernel
theorem dX9_power_116 : decode cX9_power 116 = .ok (.invokestatic 270, 3) := by decide +kernel
theorem dX9_power_119 : decode cX9_power 119 = .ok (.isub, 1) := by decide +kernel
theorem dX9_power_120 : decode cX9_power 120 = .ok (.iconst 1, 1) := by decide +kernel
theorem dX9_power_121 : decode cX9_power 121 = .ok (.isub, 1) := by decide +kernel
theorem dX9_power_122 : decode cX9_power 122 = .ok (.invokestatic 261, 3) := by decide +kernel
theorem dX9_power_125 : decode cX9_power 125 = .ok (.imul, 1) := by decide +kernel
theorem dX9_power_126 : decode cX9_power 126 = .ok (.iadd, 1) := by decide +kernel
theorem dX9_power_127 : decode cX9_power 127 = .ok (.istore_n 3, 1) := by decide +kernel
theorem dX9_power_128 : decode cX9_power 128 = .ok (.iinc 4 1, 3) := by decide +kernel
theorem dX9_power_131 : decode cX9_power 131 = .ok (.goto (-82), 3) := by decide +kernel
theorem dX9_power_134 : decode cX9_power 134 = .ok (.iload_n 3, 1) := by decide +kernel
theorem dX9_power_135 : decode cX9_power 135 = .ok (.ireturn, 1) := by decide +kernel
theorem dX9_carries_0 : decode cX9_carries 0 = .ok (.aload_n 0, 1) := by decide +kernel
theorem dX9_carries_1 : decode cX9_carries 1 = .ok (.iload_n 1, 1) := by decide +kernel
theorem dX9_carries_2 : decode cX9_carries 2 = .ok (.invokevirtual 264, 3) := by decide +kernel
theorem dX9_carries_5 : decode cX9_carries 5 = .ok (.ifCond .ne 10, 3) := by decide +kernel
theorem dX9_carries_8 : decode cX9_carries 8 = .ok (.aload_n 0, 1) := by decide +kernel
theorem dX9_carries_9 : decode cX9_carries 9 = .ok (.bipush (-6), 2) := by decide +kernel
theorem dX9_carries_11 : decode cX9_carries 11 = .ok (.invokevirtual 79, 3) := by decide +kernel
theorem dX9_carries_14 : decode cX9_carries 14 = .ok (.ireturn, 1) := by decide +kernel
theorem dX9_carries_15 : decode cX9_carries 15 = .ok (.iconst 0, 1) := by decide +kernel
theorem dX9_carries_16 : decode cX9_carries 16 = .ok (.istore_n 2, 1) := by decide +kernel
theorem dX9_carries_17 : decode cX9_carries 17 = .ok (.iconst 1, 1) := by decide +kernel
theorem dX9_carries_18 : decode cX9_carries 18 = .ok (.istore_n 3, 1) := by decide +kernel
theorem dX9_carries_19 : decode cX9_carries 19 = .ok (.iload_n 3, 1) := by decide +kernel
theorem dX9_carries_20 : decode cX9_carries 20 = .ok (.iload_n 1, 1) := by decide +kernel
theorem dX9_carries_21 : decode cX9_carries 21 = .ok (.if_icmp .gt 43, 3) := by decide +kernel
theorem dX9_carries_24 : decode cX9_carries 24 = .ok (.iload_n 3, 1) := by decide +kernel
theorem dX9_carries_25 : decode cX9_carries 25 = .ok (.iload_n 1, 1) := by decide +kernel
theorem dX9_carries_26 : decode cX9_carries 26 = .ok (.iconst (-1), 1) := by decide +kernel
theorem dX9_carries_27 : decode cX9_carries 27 = .ok (.ixor, 1) := by decide +kernel
theorem dX9_carries_28 : decode cX9_carries 28 = .ok (.iand, 1) := by decide +kernel
theorem dX9_carries_29 : decode cX9_carries 29 = .ok (.ifCond .ne 29, 3) := by decide +kernel
theorem dX9_carries_32 : decode cX9_carries 32 = .ok (.aload_n 0, 1) := by decide +kernel
theorem dX9_carries_33 : decode cX9_carries 33 = .ok (.iload_n 3, 1) := by decide +kernel
theorem dX9_carries_34 : decode cX9_carries 34 = .ok (.iload_n 1, 1) := by decide +kernel
theorem dX9_carries_35 : decode cX9_carries 35 = .ok (.invokevirtual 267, 3) := by decide +kernel
theorem dX9_carries_38 : decode cX9_carries 38 = .ok (.ifCond .eq 20, 3) := by decide +kernel
theorem dX9_carries_41 : decode cX9_carries 41 = .ok (.iload_n 2, 1) := by decide +kernel
theorem dX9_carries_42 : decode cX9_carries 42 = .ok (.ifCond .eq 14, 3) := by decide +kernel
theorem dX9_carries_45 : decode cX9_carries 45 = .ok (.iload_n 3, 1) := by decide +kernel
theorem dX9_carries_46 : decode cX9_carries 46 = .ok (.invokestatic 270, 3) := by decide +kernel
theorem dX9_carries_49 : decode cX9_carries 49 = .ok (.iload_n 2, 1) := by decide +kernel
theorem dX9_carries_50 : decode cX9_carries 50 = .ok (.invokestatic 270, 3) := by decide +kernel
theorem dX9_carries_53 : decode cX9_carries 53 = .ok (.if_icmp .ge 5, 3) := by decide +kernel
theorem dX9_carries_56 : decode cX9_carries 56 = .ok (.iload_n 3, 1) := by decide +kernel
theorem dX9_carries_57 : decode cX9_carries 57 = .ok (.istore_n 2, 1) := by decide +kernel
theorem dX9_carries_58 : decode cX9_carries 58 = .ok (.iinc 3 1, 3) := by decide +kernel
theorem dX9_carries_61 : decode cX9_carries 61 = .ok (.goto (-42), 3) := by decide +kernel
theorem dX9_carries_64 : decode cX9_carries 64 = .ok (.iload_n 2, 1) := by decide +kernel
theorem dX9_carries_65 : decode cX9_carries 65 = .ok (.ireturn, 1) := by decide +kernel
theorem dX9_bell_0 : decode cX9_bell 0 = .ok (.aload_n 0, 1) := by decide +kernel
theorem dX9_bell_1 : decode cX9_bell 1 = .ok (.iload_n 1, 1) := by decide +kernel
theorem dX9_bell_2 : decode cX9_bell 2 = .ok (.invokevirtual 97, 3) := by decide +kernel
theorem dX9_bell_5 : decode cX9_bell 5 = .ok (.ifCond .ne 9, 3) := by decide +kernel
theorem dX9_bell_8 : decode cX9_bell 8 = .ok (.aload_n 0, 1) := by decide +kernel
theorem dX9_bell_9 : decode cX9_bell 9 = .ok (.iconst (-1), 1) := by decide +kernel
theorem dX9_bell_10 : decode cX9_bell 10 = .ok (.invokevirtual 240, 3) := by decide +kernel
theorem dX9_bell_13 : decode cX9_bell 13 = .ok (.ireturn, 1) := by decide +kernel
theorem dX9_bell_14 : decode cX9_bell 14 = .ok (.aload_n 0, 1) := by decide +kernel
theorem dX9_bell_15 : decode cX9_bell 15 = .ok (.getfield 32, 3) := by decide +kernel
theorem dX9_bell_18 : decode cX9_bell 18 = .ok (.iconst 1, 1) := by decide +kernel
theorem dX9_bell_19 : decode cX9_bell 19 = .ok (.iaload, 1) := by decide +kernel
theorem dX9_bell_20 : decode cX9_bell 20 = .ok (.istore_n 2, 1) := by decide +kernel
theorem dX9_bell_21 : decode cX9_bell 21 = .ok (.iconst (-1), 1) := by decide +kernel
theorem dX9_bell_22 : decode cX9_bell 22 = .ok (.istore_n 3, 1) := by decide +kernel
theorem dX9_bell_23 : decode cX9_bell 23 = .ok (.bipush 8, 2) := by decide +kernel
theorem dX9_bell_25 : decode cX9_bell 25 = .ok (.istore 4, 2) := by decide +kernel
theorem dX9_bell_27 : decode cX9_bell 27 = .ok (.iconst 0, 1) := by decide +kernel
theorem dX9_bell_28 : decode cX9_bell 28 = .ok (.istore 5, 2) := by decide +kernel
theorem dX9_bell_30 : decode cX9_bell 30 = .ok (.iload 5, 2) := by decide +kernel
theorem dX9_bell_32 : decode cX9_bell 32 = .ok (.bipush 40, 2) := by decide +kernel
theorem dX9_bell_34 : decode cX9_bell 34 = .ok (.if_icmp .gt 51, 3) := by decide +kernel
theorem dX9_bell_37 : decode cX9_bell 37 = .ok (.aload_n 0, 1) := by decide +kernel
theorem dX9_bell_38 : decode cX9_bell 38 = .ok (.getfield 32, 3) := by decide +kernel
theorem dX9_bell_41 : decode cX9_bell 41 = .ok (.iconst 1, 1) := by decide +kernel
theorem dX9_bell_42 : decode cX9_bell 42 = .ok (.iload 5, 2) := by decide +kernel
theorem dX9_bell_44 : decode cX9_bell 44 = .ok (.iastore, 1) := by decide +kernel
theorem dX9_bell_45 : decode cX9_bell 45 = .ok (.aload_n 0, 1) := by decide +kernel
theorem dX9_bell_46 : decode cX9_bell 46 = .ok (.invokevirtual 225, 3) := by decide +kernel
theorem dX9_bell_49 : decode cX9_bell 49 = .ok (.invokestatic 270, 3) := by decide +kernel
theorem dX9_bell_52 : decode cX9_bell 52 = .ok (.istore 6, 2) := by decide +kernel
theorem dX9_bell_54 : decode cX9_bell 54 = .ok (.aload_n 0, 1) := by decide +kernel
theorem dX9_bell_55 : decode cX9_bell 55 = .ok (.iload_n 1, 1) := by decide +kernel
theorem dX9_bell_56 : decode cX9_bell 56 = .ok (.invokevirtual 137, 3) := by decide +kernel
theorem dX9_bell_59 : decode cX9_bell 59 = .ok (.ifCond .eq 20, 3) := by decide +kernel
theorem dX9_bell_62 : decode cX9_bell 62 = .ok (.iload 6, 2) := by decide +kernel
theorem dX9_bell_64 : decode cX9_bell 64 = .ok (.iload 4, 2) := by decide +kernel
theorem dX9_bell_66 : decode cX9_bell 66 = .ok (.if_icmp .lt 6, 3) := by decide +kernel
theorem dX9_bell_69 : decode cX9_bell 69 = .ok (.goto 10, 3) := by decide +kernel
theorem dX9_bell_72 : decode cX9_bell 72 = .ok (.iload 6, 2) := by decide +kernel
theorem dX9_bell_74 : decode cX9_bell 74 = .ok (.istore 4, 2) := by decide +kernel
theorem dX9_bell_76 : decode cX9_bell 76 = .ok (.iload 5, 2) := by decide +kernel
theorem dX9_bell_78 : decode cX9_bell 78 = .ok (.istore_n 3, 1) := by decide +kernel
theorem dX9_bell_79 : decode cX9_bell 79 = .ok (.iinc 5 1, 3) := by decide +kernel
theorem dX9_bell_82 : decode cX9_bell 82 = .ok (.goto (-52), 3) := by decide +kernel
theorem dX9_bell_85 : decode cX9_bell 85 = .ok (.aload_n 0, 1) := by decide +kernel
theorem dX9_bell_86 : decode cX9_bell 86 = .ok (.getfield 32, 3) := by decide +kernel
theorem dX9_bell_89 : decode cX9_bell 89 = .ok (.iconst 1, 1) := by decide +kernel
theorem dX9_bell_90 : decode cX9_bell 90 = .ok (.iload_n 2, 1) := by decide +kernel
theorem dX9_bell_91 : decode cX9_bell 91 = .ok (.iastore, 1) := by decide +kernel
theorem dX9_bell_92 : decode cX9_bell 92 = .ok (.iload_n 3, 1) := by decide +kernel
theorem dX9_bell_93 : decode cX9_bell 93 = .ok (.ireturn, 1) := by decide +kernel
theorem dX9_crowded_0 : decode cX9_crowded 0 = .ok (.iconst (-1), 1) := by decide +kernel
theorem dX9_crowded_1 : decode cX9_crowded 1 = .ok (.istore_n 1, 1) := by decide +kernel
theorem dX9_crowded_2 : decode cX9_crowded 2 = .ok (.iconst 0, 1) := by decide +kernel
theorem dX9_crowded_3 : decode cX9_crowded 3 = .ok (.istore_n 2, 1) := by decide +kernel
theorem dX9_crowded_4 : decode cX9_crowded 4 = .ok (.iload_n 2, 1) := by decide +kernel
theorem dX9_crowded_5 : decode cX9_crowded 5 = .ok (.bipush 49, 2) := by decide +kernel
theorem dX9_crowded_7 : decode cX9_crowded 7 = .ok (.if_icmp .ge 43, 3) := by decide +kernel
theorem dX9_crowded_10 : decode cX9_crowded 10 = .ok (.aload_n 0, 1) := by decide +kernel
theorem dX9_crowded_11 : decode cX9_crowded 11 = .ok (.iload_n 2, 1) := by decide +kernel
theorem dX9_crowded_12 : decode cX9_crowded 12 = .ok (.invokevirtual 113, 3) := by decide +kernel
theorem dX9_crowded_15 : decode cX9_crowded 15 = .ok (.ifCond .eq 29, 3) := by decide +kernel
theorem dX9_crowded_18 : decode cX9_crowded 18 = .ok (.iload_n 1, 1) := by decide +kernel
theorem dX9_crowded_19 : decode cX9_crowded 19 = .ok (.iconst (-1), 1) := by decide +kernel
theorem dX9_crowded_20 : decode cX9_crowded 20 = .ok (.if_icmp .eq 22, 3) := by decide +kernel
theorem dX9_crowded_23 : decode cX9_crowded 23 = .ok (.aload_n 0, 1) := by decide +kernel
theorem dX9_crowded_24 : decode cX9_crowded 24 = .ok (.iload_n 2, 1) := by decide +kernel
theorem dX9_crowded_25 : decode cX9_crowded 25 = .ok (.invokevirtual 113, 3) := by decide +kernel
theorem dX9_crowded_28 : decode cX9_crowded 28 = .ok (.invokestatic 270, 3) := by decide +kernel
theorem dX9_crowded_31 : decode cX9_crowded 31 = .ok (.aload_n 0, 1) := by decide +kernel
theorem dX9_crowded_32 : decode cX9_crowded 32 = .ok (.iload_n 1, 1) := by decide +kernel
theorem dX9_crowded_33 : decode cX9_crowded 33 = .ok (.invokevirtual 113, 3) := by decide +kernel
theorem dX9_crowded_36 : decode cX9_crowded 36 = .ok (.invokestatic 270, 3) := by decide +kernel
theorem dX9_crowded_39 : decode cX9_crowded 39 = .ok (.if_icmp .le 5, 3) := by decide +kernel
theorem dX9_crowded_42 : decode cX9_crowded 42 = .ok (.iload_n 2, 1) := by decide +kernel
theorem dX9_crowded_43 : decode cX9_crowded 43 = .ok (.istore_n 1, 1) := by decide +kernel
theorem dX9_crowded_44 : decode cX9_crowded 44 = .ok (.iinc 2 1, 3) := by decide +kernel
theorem dX9_crowded_47 : decode cX9_crowded 47 = .ok (.goto (-43), 3) := by decide +kernel
theorem dX9_crowded_50 : decode cX9_crowded 50 = .ok (.iload_n 1, 1) := by decide +kernel
theorem dX9_crowded_51 : decode cX9_crowded 51 = .ok (.ireturn, 1) := by decide +kernel
theorem dX9_lastOne_0 : decode cX9_lastOne 0 = .ok (.iconst 0, 1) := by decide +kernel
theorem dX9_lastOne_1 : decode cX9_lastOne 1 = .ok (.istore_n 1, 1) := by decide +kernel
theorem dX9_lastOne_2 : decode cX9_lastOne 2 = .ok (.iconst 0, 1) := by decide +kernel
theorem dX9_lastOne_3 : decode cX9_lastOne 3 = .ok (.istore_n 2, 1) := by decide +kernel
theorem dX9_lastOne_4 : decode cX9_lastOne 4 = .ok (.iload_n 2, 1) := by decide +kernel
theorem dX9_lastOne_5 : decode cX9_lastOne 5 = .ok (.aload_n 0, 1) := by decide +kernel
theorem dX9_lastOne_6 : decode cX9_lastOne 6 = .ok (.getfield 83, 3) := by decide +kernel
theorem dX9_lastOne_9 : decode cX9_lastOne 9 = .ok (.if_icmp .ge 30, 3) := by decide +kernel
theorem dX9_lastOne_12 : decode cX9_lastOne 12 = .ok (.aload_n 0, 1) := by decide +kernel
theorem dX9_lastOne_13 : decode cX9_lastOne 13 = .ok (.aload_n 0, 1) := by decide +kernel
theorem dX9_lastOne_14 : decode cX9_lastOne 14 = .ok (.getfield 22, 3) := by decide +kernel
theorem dX9_lastOne_17 : decode cX9_lastOne 17 = .ok (.iload_n 2, 1) := by decide +kernel
theorem dX9_lastOne_18 : decode cX9_lastOne 18 = .ok (.iaload, 1) := by decide +kernel
theorem dX9_lastOne_19 : decode cX9_lastOne 19 = .ok (.invokevirtual 206, 3) := by decide +kernel
theorem dX9_lastOne_22 : decode cX9_lastOne 22 = .ok (.bipush 99, 2) := by decide +kernel
theorem dX9_lastOne_24 : decode cX9_lastOne 24 = .ok (.if_icmp .ge 9, 3) := by decide +kernel
theorem dX9_lastOne_27 : decode cX9_lastOne 27 = .ok (.iload_n 1, 1) := by decide +kernel
theorem dX9_lastOne_28 : decode cX9_lastOne 28 = .ok (.iconst 1, 1) := by decide +kernel
theorem dX9_lastOne_29 : decode cX9_lastOne 29 = .ok (.iload_n 2, 1) := by decide +kernel
theorem dX9_lastOne_30 : decode cX9_lastOne 30 = .ok (.ishl, 1) := by decide +kernel
theorem dX9_lastOne_31 : decode cX9_lastOne 31 = .ok (.ior, 1) := by decide +kernel
theorem dX9_lastOne_32 : decode cX9_lastOne 32 = .ok (.istore_n 1, 1) := by decide +kernel
theorem dX9_lastOne_33 : decode cX9_lastOne 33 = .ok (.iinc 2 1, 3) := by decide +kernel
theorem dX9_lastOne_36 : decode cX9_lastOne 36 = .ok (.goto (-32), 3) := by decide +kernel
theorem dX9_lastOne_39 : decode cX9_lastOne 39 = .ok (.aload_n 0, 1) := by decide +kernel
theorem dX9_lastOne_40 : decode cX9_lastOne 40 = .ok (.iload_n 1, 1) := by decide +kernel
theorem dX9_lastOne_41 : decode cX9_lastOne 41 = .ok (.invokevirtual 219, 3) := by decide +kernel
theorem dX9_lastOne_44 : decode cX9_lastOne 44 = .ok (.ireturn, 1) := by decide +kernel
theorem dX9_crowd_0 : decode cX9_crowd 0 = .ok (.iload_n 2, 1) := by decide +kernel
theorem dX9_crowd_1 : decode cX9_crowd 1 = .ok (.iconst 0, 1) := by decide +kernel
theorem dX9_crowd_2 : decode cX9_crowd 2 = .ok (.iconst 1, 1) := by decide +kernel
theorem dX9_crowd_3 : decode cX9_crowd 3 = .ok (.invokestatic 86, 3) := by decide +kernel
theorem dX9_crowd_6 : decode cX9_crowd 6 = .ok (.ifCond .ne 10, 3) := by decide +kernel
theorem dX9_crowd_9 : decode cX9_crowd 9 = .ok (.aload_n 0, 1) := by decide +kernel
theorem dX9_crowd_10 : decode cX9_crowd 10 = .ok (.bipush (-5), 2) := by decide +kernel
theorem dX9_crowd_12 : decode cX9_crowd 12 = .ok (.invokevirtual 240, 3) := by decide +kernel
theorem dX9_crowd_15 : decode cX9_crowd 15 = .ok (.ireturn, 1) := by decide +kernel
theorem dX9_crowd_16 : decode cX9_crowd 16 = .ok (.iload_n 1, 1) := by decide +kernel
theorem dX9_crowd_17 : decode cX9_crowd 17 = .ok (.invokestatic 231, 3) := by decide +kernel
theorem dX9_crowd_20 : decode cX9_crowd 20 = .ok (.ifCond .ne 10, 3) := by decide +kernel
theorem dX9_crowd_23 : decode cX9_crowd 23 = .ok (.aload_n 0, 1) := by decide +kernel
theorem dX9_crowd_24 : decode cX9_crowd 24 = .ok (.bipush (-6), 2) := by decide +kernel
theorem dX9_crowd_26 : decode cX9_crowd 26 = .ok (.invokevirtual 240, 3) := by decide +kernel
theorem dX9_crowd_29 : decode cX9_crowd 29 = .ok (.ireturn, 1) := by decide +kernel
theorem dX9_crowd_30 : decode cX9_crowd 30 = .ok (.aload_n 0, 1) := by decide +kernel
theorem dX9_crowd_31 : decode cX9_crowd 31 = .ok (.aload_n 0, 1) := by decide +kernel
theorem dX9_crowd_32 : decode cX9_crowd 32 = .ok (.getfield 66, 3) := by decide +kernel
theorem dX9_crowd_35 : decode cX9_crowd 35 = .ok (.invokevirtual 187, 3) := by decide +kernel
theorem dX9_crowd_38 : decode cX9_crowd 38 = .ok (.aload_n 0, 1) := by decide +kernel
theorem dX9_crowd_39 : decode cX9_crowd 39 = .ok (.iload_n 1, 1) := by decide +kernel
theorem dX9_crowd_40 : decode cX9_crowd 40 = .ok (.invokevirtual 234, 3) := by decide +kernel
theorem dX9_crowd_43 : decode cX9_crowd 43 = .ok (.iload_n 2, 1) := by decide +kernel
theorem dX9_crowd_44 : decode cX9_crowd 44 = .ok (.ifCond .ne 10, 3) := by decide +kernel
theorem dX9_crowd_47 : decode cX9_crowd 47 = .ok (.aload_n 0, 1) := by decide +kernel
theorem dX9_crowd_48 : decode cX9_crowd 48 = .ok (.invokevirtual 274, 3) := by decide +kernel
theorem dX9_crowd_51 : decode cX9_crowd 51 = .ok (.goto 7, 3) := by decide +kernel
theorem dX9_crowd_54 : decode cX9_crowd 54 = .ok (.aload_n 0, 1) := by decide +kernel
theorem dX9_crowd_55 : decode cX9_crowd 55 = .ok (.invokevirtual 277, 3) := by decide +kernel
theorem dX9_crowd_58 : decode cX9_crowd 58 = .ok (.istore_n 3, 1) := by decide +kernel
theorem dX9_crowd_59 : decode cX9_crowd 59 = .ok (.aload_n 0, 1) := by decide +kernel
theorem dX9_crowd_60 : decode cX9_crowd 60 = .ok (.aload_n 0, 1) := by decide +kernel
theorem dX9_crowd_61 : decode cX9_crowd 61 = .ok (.getfield 66, 3) := by decide +kernel
theorem dX9_crowd_64 : decode cX9_crowd 64 = .ok (.invokevirtual 195, 3) := by decide +kernel
theorem dX9_crowd_67 : decode cX9_crowd 67 = .ok (.iload_n 3, 1) := by decide +kernel
theorem dX9_crowd_68 : decode cX9_crowd 68 = .ok (.ireturn, 1) := by decide +kernel
theorem dX9_judge_0 : decode cX9_judge 0 = .ok (.aload_n 0, 1) := by decide +kernel
theorem dX9_judge_1 : decode cX9_judge 1 = .ok (.iload_n 1, 1) := by decide +kernel
theorem dX9_judge_2 : decode cX9_judge 2 = .ok (.invokevirtual 94, 3) := by decide +kernel
theorem dX9_judge_5 : decode cX9_judge 5 = .ok (.istore 4, 2) := by decide +kernel
theorem dX9_judge_7 : decode cX9_judge 7 = .ok (.iload 4, 2) := by decide +kernel
theorem dX9_judge_9 : decode cX9_judge 9 = .ok (.ifCond .ge 10, 3) := by decide +kernel
theorem dX9_judge_12 : decode cX9_judge 12 = .ok (.aload_n 0, 1) := by decide +kernel
theorem dX9_judge_13 : decode cX9_judge 13 = .ok (.iload 4, 2) := by decide +kernel
theorem dX9_judge_15 : decode cX9_judge 15 = .ok (.invokevirtual 240, 3) := by decide +kernel
theorem dX9_judge_18 : decode cX9_judge 18 = .ok (.ireturn, 1) := by decide +kernel
theorem dX9_judge_19 : decode cX9_judge 19 = .ok (.iload_n 2, 1) := by decide +kernel
theorem dX9_judge_20 : decode cX9_judge 20 = .ok (.ifCond .ge 10, 3) := by decide +kernel
theorem dX9_judge_23 : decode cX9_judge 23 = .ok (.aload_n 0, 1) := by decide +kernel
theorem dX9_judge_24 : decode cX9_judge 24 = .ok (.bipush (-4), 2) := by decide +kernel
theorem dX9_judge_26 : decode cX9_judge 26 = .ok (.invokevirtual 240, 3) := by decide +kernel
theorem dX9_judge_29 : decode cX9_judge 29 = .ok (.ireturn, 1) := by decide +kernel
theorem dX9_judge_30 : decode cX9_judge 30 = .ok (.iload_n 2, 1) := by decide +kernel
theorem dX9_judge_31 : decode cX9_judge 31 = .ok (.aload_n 0, 1) := by decide +kernel
theorem dX9_judge_32 : decode cX9_judge 32 = .ok (.getfield 38, 3) := by decide +kernel
theorem dX9_judge_35 : decode cX9_judge 35 = .ok (.iload_n 1, 1) := by decide +kernel
theorem dX9_judge_36 : decode cX9_judge 36 = .ok (.iaload, 1) := by decide +kernel
theorem dX9_judge_37 : decode cX9_judge 37 = .ok (.if_icmp .le 10, 3) := by decide +kernel
theorem dX9_judge_40 : decode cX9_judge 40 = .ok (.aload_n 0, 1) := by decide +kernel
theorem dX9_judge_41 : decode cX9_judge 41 = .ok (.bipush (-5), 2) := by decide +kernel
theorem dX9_judge_43 : decode cX9_judge 43 = .ok (.invokevirtual 240, 3) := by decide +kernel
theorem dX9_judge_46 : decode cX9_judge 46 = .ok (.ireturn, 1) := by decide +kernel
theorem dX9_judge_47 : decode cX9_judge 47 = .ok (.iload_n 3, 1) := by decide +kernel
theorem dX9_judge_48 : decode cX9_judge 48 = .ok (.invokestatic 231, 3) := by decide +kernel
theorem dX9_judge_51 : decode cX9_judge 51 = .ok (.ifCond .eq 11, 3) := by decide +kernel
theorem dX9_judge_54 : decode cX9_judge 54 = .ok (.iload_n 2, 1) := by decide +kernel
theorem dX9_judge_55 : decode cX9_judge 55 = .ok (.aload_n 0, 1) := by decide +kernel
theorem dX9_judge_56 : decode cX9_judge 56 = .ok (.getfield 83, 3) := by decide +kernel
theorem dX9_judge_59 : decode cX9_judge 59 = .ok (.if_icmp .le 10, 3) := by decide +kernel
theorem dX9_judge_62 : decode cX9_judge 62 = .ok (.aload_n 0, 1) := by decide +kernel
theorem dX9_judge_63 : decode cX9_judge 63 = .ok (.bipush (-6), 2) := by decide +kernel
theorem dX9_judge_65 : decode cX9_judge 65 = .ok (.invokevirtual 240, 3) := by decide +kernel
theorem dX9_judge_68 : decode cX9_judge 68 = .ok (.ireturn, 1) := by decide +kernel
theorem dX9_judge_69 : decode cX9_judge 69 = .ok (.aload_n 0, 1) := by decide +kernel
theorem dX9_judge_70 : decode cX9_judge 70 = .ok (.aload_n 0, 1) := by decide +kernel
theorem dX9_judge_71 : decode cX9_judge 71 = .ok (.getfield 66, 3) := by decide +kernel
theorem dX9_judge_74 : decode cX9_judge 74 = .ok (.invokevirtual 187, 3) := by decide +kernel
theorem dX9_judge_77 : decode cX9_judge 77 = .ok (.aload_n 0, 1) := by decide +kernel
theorem dX9_judge_78 : decode cX9_judge 78 = .ok (.iload_n 3, 1) := by decide +kernel
theorem dX9_judge_79 : decode cX9_judge 79 = .ok (.invokevirtual 234, 3) := by decide +kernel
theorem dX9_judge_82 : decode cX9_judge 82 = .ok (.iconst (-1), 1) := by decide +kernel
theorem dX9_judge_83 : decode cX9_judge 83 = .ok (.istore 5, 2) := by decide +kernel
theorem dX9_judge_85 : decode cX9_judge 85 = .ok (.iload_n 2, 1) := by decide +kernel
theorem dX9_judge_86 : decode cX9_judge 86 = .ok (.iconst 1, 1) := by decide +kernel
theorem dX9_judge_87 : decode cX9_judge 87 = .ok (.isub, 1) := by decide +kernel
theorem dX9_judge_88 : decode cX9_judge 88 = .ok (.istore 6, 2) := by decide +kernel
theorem dX9_judge_90 : decode cX9_judge 90 = .ok (.iload 6, 2) := by decide +kernel
theorem dX9_judge_92 : decode cX9_judge 92 = .ok (.ifCond .lt 30, 3) := by decide +kernel
theorem dX9_judge_95 : decode cX9_judge 95 = .ok (.aload_n 0, 1) := by decide +kernel
theorem dX9_judge_96 : decode cX9_judge 96 = .ok (.getfield 22, 3) := by decide +kernel
theorem dX9_judge_99 : decode cX9_judge 99 = .ok (.iload 6, 2) := by decide +kernel
theorem dX9_judge_101 : decode cX9_judge 101 = .ok (.iaload, 1) := by decide +kernel
theorem dX9_judge_102 : decode cX9_judge 102 = .ok (.aload_n 0, 1) := by decide +kernel
theorem dX9_judge_103 : decode cX9_judge 103 = .ok (.iload_n 1, 1) := by decide +kernel
theorem dX9_judge_104 : decode cX9_judge 104 = .ok (.iload 6, 2) := by decide +kernel
theorem dX9_judge_106 : decode cX9_judge 106 = .ok (.invokevirtual 243, 3) := by decide +kernel
theorem dX9_judge_109 : decode cX9_judge 109 = .ok (.if_icmp .eq 7, 3) := by decide +kernel
theorem dX9_judge_112 : decode cX9_judge 112 = .ok (.iload 6, 2) := by decide +kernel
theorem dX9_judge_114 : decode cX9_judge 114 = .ok (.istore 5, 2) := by decide +kernel
theorem dX9_judge_116 : decode cX9_judge 116 = .ok (.iinc 6 (-1), 3) := by decide +kernel
theorem dX9_judge_119 : decode cX9_judge 119 = .ok (.goto (-29), 3) := by decide +kernel
theorem dX9_judge_122 : decode cX9_judge 122 = .ok (.aload_n 0, 1) := by decide +kernel
theorem dX9_judge_123 : decode cX9_judge 123 = .ok (.aload_n 0, 1) := by decide +kernel
theorem dX9_judge_124 : decode cX9_judge 124 = .ok (.getfield 66, 3) := by decide +kernel
theorem dX9_judge_127 : decode cX9_judge 127 = .ok (.invokevirtual 195, 3) := by decide +kernel
theorem dX9_judge_130 : decode cX9_judge 130 = .ok (.iload 5, 2) := by decide +kernel
theorem dX9_judge_132 : decode cX9_judge 132 = .ok (.ireturn, 1) := by decide +kernel
theorem dX9_run_0 : decode cX9_run 0 = .ok (.iload_n 1, 1) := by decide +kernel
theorem dX9_run_1 : decode cX9_run 1 = .ok (.iconst 1, 1) := by decide +kernel
theorem dX9_run_2 : decode cX9_run 2 = .ok (.bipush 30, 2) := by decide +kernel
theorem dX9_run_4 : decode cX9_run 4 = .ok (.invokestatic 86, 3) := by decide +kernel
theorem dX9_run_7 : decode cX9_run 7 = .ok (.ifCond .ne 10, 3) := by decide +kernel
theorem dX9_run_10 : decode cX9_run 10 = .ok (.aload_n 0, 1) := by decide +kernel
theorem dX9_run_11 : decode cX9_run 11 = .ok (.bipush (-6), 2) := by decide +kernel
theorem dX9_run_13 : decode cX9_run 13 = .ok (.invokevirtual 79, 3) := by decide +kernel
theorem dX9_run_16 : decode cX9_run 16 = .ok (.ireturn, 1) := by decide +kernel
theorem dX9_run_17 : decode cX9_run 17 = .ok (.aload_n 0, 1) := by decide +kernel
theorem dX9_run_18 : decode cX9_run 18 = .ok (.iload_n 1, 1) := by decide +kernel
theorem dX9_run_19 : decode cX9_run 19 = .ok (.invokevirtual 234, 3) := by decide +kernel
theorem dX9_run_22 : decode cX9_run 22 = .ok (.aload_n 0, 1) := by decide +kernel
theorem dX9_run_23 : decode cX9_run 23 = .ok (.getfield 32, 3) := by decide +kernel
theorem dX9_run_26 : decode cX9_run 26 = .ok (.iconst 2, 1) := by decide +kernel
theorem dX9_run_27 : decode cX9_run 27 = .ok (.iaload, 1) := by decide +kernel
theorem dX9_run_28 : decode cX9_run 28 = .ok (.ireturn, 1) := by decide +kernel
theorem dX9_votes_0 : decode cX9_votes 0 = .ok (.aload_n 0, 1) := by decide +kernel
theorem dX9_votes_1 : decode cX9_votes 1 = .ok (.invokevirtual 222, 3) := by decide +kernel
theorem dX9_votes_4 : decode cX9_votes 4 = .ok (.istore_n 1, 1) := by decide +kernel
theorem dX9_votes_5 : decode cX9_votes 5 = .ok (.iconst 0, 1) := by decide +kernel
theorem dX9_votes_6 : decode cX9_votes 6 = .ok (.istore_n 2, 1) := by decide +kernel
theorem dX9_votes_7 : decode cX9_votes 7 = .ok (.iload_n 2, 1) := by decide +kernel
theorem dX9_votes_8 : decode cX9_votes 8 = .ok (.aload_n 0, 1) := by decide +kernel
theorem dX9_votes_9 : decode cX9_votes 9 = .ok (.getfield 83, 3) := by decide +kernel
theorem dX9_votes_12 : decode cX9_votes 12 = .ok (.if_icmp .ge 38, 3) := by decide +kernel
theorem dX9_votes_15 : decode cX9_votes 15 = .ok (.iload_n 1, 1) := by decide +kernel
theorem dX9_votes_16 : decode cX9_votes 16 = .ok (.iload_n 2, 1) := by decide +kernel
theorem dX9_votes_17 : decode cX9_votes 17 = .ok (.ishr, 1) := by decide +kernel
theorem dX9_votes_18 : decode cX9_votes 18 = .ok (.iconst 1, 1) := by decide +kernel
theorem dX9_votes_19 : decode cX9_votes 19 = .ok (.iand, 1) := by decide +kernel
theorem dX9_votes_20 : decode cX9_votes 20 = .ok (.ifCond .ne 6, 3) := by decide +kernel
theorem dX9_votes_23 : decode cX9_votes 23 = .ok (.goto 21, 3) := by decide +kernel
theorem dX9_votes_26 : decode cX9_votes 26 = .ok (.aload_n 0, 1) := by decide +kernel
theorem dX9_votes_27 : decode cX9_votes 27 = .ok (.getfield 25, 3) := by decide +kernel
theorem dX9_votes_30 : decode cX9_votes 30 = .ok (.iload_n 2, 1) := by decide +kernel
theorem dX9_votes_31 : decode cX9_votes 31 = .ok (.dup2, 1) := by decide +kernel
theorem dX9_votes_32 : decode cX9_votes 32 = .ok (.iaload, 1) := by decide +kernel
theorem dX9_votes_33 : decode cX9_votes 33 = .ok (.iconst 1, 1) := by decide +kernel
theorem dX9_votes_34 : decode cX9_votes 34 = .ok (.iadd, 1) := by decide +kernel
theorem dX9_votes_35 : decode cX9_votes 35 = .ok (.iastore, 1) := by decide +kernel
theorem dX9_votes_36 : decode cX9_votes 36 = .ok (.aload_n 0, 1) := by decide +kernel
theorem dX9_votes_37 : decode cX9_votes 37 = .ok (.getfield 22, 3) := by decide +kernel
theorem dX9_votes_40 : decode cX9_votes 40 = .ok (.iload_n 2, 1) := by decide +kernel
theorem dX9_votes_41 : decode cX9_votes 41 = .ok (.bipush 24, 2) := by decide +kernel
theorem dX9_votes_43 : decode cX9_votes 43 = .ok (.iastore, 1) := by decide +kernel
theorem dX9_votes_44 : decode cX9_votes 44 = .ok (.iinc 2 1, 3) := by decide +kernel
theorem dX9_votes_47 : decode cX9_votes 47 = .ok (.goto (-40), 3) := by decide +kernel
theorem dX9_votes_50 : decode cX9_votes 50 = .ok (.aload_n 0, 1) := by decide +kernel
theorem dX9_votes_51 : decode cX9_votes 51 = .ok (.getfield 32, 3) := by decide +kernel
theorem dX9_votes_54 : decode cX9_votes 54 = .ok (.iconst 3, 1) := by decide +kernel
theorem dX9_votes_55 : decode cX9_votes 55 = .ok (.dup2, 1) := by decide +kernel
theorem dX9_votes_56 : decode cX9_votes 56 = .ok (.iaload, 1) := by decide +kernel
theorem dX9_votes_57 : decode cX9_votes 57 = .ok (.iconst 1, 1) := by decide +kernel
theorem dX9_votes_58 : decode cX9_votes 58 = .ok (.iadd, 1) := by decide +kernel
theorem dX9_votes_59 : decode cX9_votes 59 = .ok (.iastore, 1) := by decide +kernel
theorem dX9_votes_60 : decode cX9_votes 60 = .ok (.iload_n 1, 1) := by decide +kernel
theorem dX9_votes_61 : decode cX9_votes 61 = .ok (.ireturn, 1) := by decide +kernel
theorem dX9_vote_0 : decode cX9_vote 0 = .ok (.aload_n 0, 1) := by decide +kernel
theorem dX9_vote_1 : decode cX9_vote 1 = .ok (.invokevirtual 280, 3) := by decide +kernel
theorem dX9_vote_4 : decode cX9_vote 4 = .ok (.ireturn, 1) := by decide +kernel
theorem dX9_draw_0 : decode cX9_draw 0 = .ok (.aload_n 0, 1) := by decide +kernel
theorem dX9_draw_1 : decode cX9_draw 1 = .ok (.aload_n 0, 1) := by decide +kernel
theorem dX9_draw_2 : decode cX9_draw 2 = .ok (.getfield 69, 3) := by decide +kernel
theorem dX9_draw_5 : decode cX9_draw 5 = .ok (.ldc_w 283, 3) := by decide +kernel
theorem dX9_draw_8 : decode cX9_draw 8 = .ok (.imul, 1) := by decide +kernel
theorem dX9_draw_9 : decode cX9_draw 9 = .ok (.sipush 12345, 3) := by decide +kernel
theorem dX9_draw_12 : decode cX9_draw 12 = .ok (.iadd, 1) := by decide +kernel
theorem dX9_draw_13 : decode cX9_draw 13 = .ok (.putfield 69, 3) := by decide +kernel
theorem dX9_draw_16 : decode cX9_draw 16 = .ok (.aload_n 0, 1) := by decide +kernel
theorem dX9_draw_17 : decode cX9_draw 17 = .ok (.getfield 69, 3) := by decide +kernel
theorem dX9_draw_20 : decode cX9_draw 20 = .ok (.bipush 16, 2) := by decide +kernel
theorem dX9_draw_22 : decode cX9_draw 22 = .ok (.iushr, 1) := by decide +kernel
theorem dX9_draw_23 : decode cX9_draw 23 = .ok (.iload_n 1, 1) := by decide +kernel
theorem dX9_draw_24 : decode cX9_draw 24 = .ok (.irem, 1) := by decide +kernel
theorem dX9_draw_25 : decode cX9_draw 25 = .ok (.ireturn, 1) := by decide +kernel
theorem dX9_years_0 : decode cX9_years 0 = .ok (.aload_n 0, 1) := by decide +kernel
theorem dX9_years_1 : decode cX9_years 1 = .ok (.getfield 83, 3) := by decide +kernel
theorem dX9_years_4 : decode cX9_years 4 = .ok (.ifCond .ne 10, 3) := by decide +kernel
theorem dX9_years_7 : decode cX9_years 7 = .ok (.aload_n 0, 1) := by decide +kernel
theorem dX9_years_8 : decode cX9_years 8 = .ok (.bipush (-5), 2) := by decide +kernel
theorem dX9_years_10 : decode cX9_years 10 = .ok (.invokevirtual 79, 3) := by decide +kernel
theorem dX9_years_13 : decode cX9_years 13 = .ok (.ireturn, 1) := by decide +kernel
theorem dX9_years_14 : decode cX9_years 14 = .ok (.iload_n 1, 1) := by decide +kernel
theorem dX9_years_15 : decode cX9_years 15 = .ok (.iconst 1, 1) := by decide +kernel
theorem dX9_years_16 : decode cX9_years 16 = .ok (.bipush 40, 2) := by decide +kernel
theorem dX9_years_18 : decode cX9_years 18 = .ok (.invokestatic 86, 3) := by decide +kernel
theorem dX9_years_21 : decode cX9_years 21 = .ok (.ifCond .ne 10, 3) := by decide +kernel
theorem dX9_years_24 : decode cX9_years 24 = .ok (.aload_n 0, 1) := by decide +kernel
theorem dX9_years_25 : decode cX9_years 25 = .ok (.bipush (-6), 2) := by decide +kernel
theorem dX9_years_27 : decode cX9_years 27 = .ok (.invokevirtual 79, 3) := by decide +kernel
theorem dX9_years_30 : decode cX9_years 30 = .ok (.ireturn, 1) := by decide +kernel
theorem dX9_years_31 : decode cX9_years 31 = .ok (.iconst 0, 1) := by decide +kernel
theorem dX9_years_32 : decode cX9_years 32 = .ok (.istore_n 2, 1) := by decide +kernel
theorem dX9_years_33 : decode cX9_years 33 = .ok (.iload_n 2, 1) := by decide +kernel
theorem dX9_years_34 : decode cX9_years 34 = .ok (.iload_n 1, 1) := by decide +kernel
theorem dX9_years_35 : decode cX9_years 35 = .ok (.if_icmp .ge 46, 3) := by decide +kernel
theorem dX9_years_38 : decode cX9_years 38 = .ok (.aload_n 0, 1) := by decide +kernel
theorem dX9_years_39 : decode cX9_years 39 = .ok (.aload_n 0, 1) := by decide +kernel
theorem dX9_years_40 : decode cX9_years 40 = .ok (.getfield 83, 3) := by decide +kernel
theorem dX9_years_43 : decode cX9_years 43 = .ok (.invokevirtual 284, 3) := by decide +kernel
theorem dX9_years_46 : decode cX9_years 46 = .ok (.istore_n 3, 1) := by decide +kernel
theorem dX9_years_47 : decode cX9_years 47 = .ok (.aload_n 0, 1) := by decide +kernel
theorem dX9_years_48 : decode cX9_years 48 = .ok (.getfield 16, 3) := by decide +kernel
theorem dX9_years_51 : decode cX9_years 51 = .ok (.iload_n 3, 1) := by decide +kernel
theorem dX9_years_52 : decode cX9_years 52 = .ok (.aload_n 0, 1) := by decide +kernel
theorem dX9_years_53 : decode cX9_years 53 = .ok (.bipush 21, 2) := by decide +kernel
theorem dX9_years_55 : decode cX9_years 55 = .ok (.invokevirtual 284, 3) := by decide +kernel
theorem dX9_years_58 : decode cX9_years 58 = .ok (.iastore, 1) := by decide +kernel
theorem dX9_years_59 : decode cX9_years 59 = .ok (.aload_n 0, 1) := by decide +kernel
theorem dX9_years_60 : decode cX9_years 60 = .ok (.aload_n 0, 1) := by decide +kernel
theorem dX9_years_61 : decode cX9_years 61 = .ok (.iconst 5, 1) := by decide +kernel
theorem dX9_years_62 : decode cX9_years 62 = .ok (.invokevirtual 284, 3) := by decide +kernel
theorem dX9_years_65 : decode cX9_years 65 = .ok (.iconst 1, 1) := by decide +kernel
theorem dX9_years_66 : decode cX9_years 66 = .ok (.iadd, 1) := by decide +kernel
theorem dX9_years_67 : decode cX9_years 67 = .ok (.invokevirtual 234, 3) := by decide +kernel
theorem dX9_years_70 : decode cX9_years 70 = .ok (.aload_n 0, 1) := by decide +kernel
theorem dX9_years_71 : decode cX9_years 71 = .ok (.invokevirtual 280, 3) := by decide +kernel
theorem dX9_years_74 : decode cX9_years 74 = .ok (.pop, 1) := by decide +kernel
theorem dX9_years_75 : decode cX9_years 75 = .ok (.iinc 2 1, 3) := by decide +kernel
theorem dX9_years_78 : decode cX9_years 78 = .ok (.goto (-45), 3) := by decide +kernel
theorem dX9_years_81 : decode cX9_years 81 = .ok (.aload_n 0, 1) := by decide +kernel
theorem dX9_years_82 : decode cX9_years 82 = .ok (.getfield 32, 3) := by decide +kernel
theorem dX9_years_85 : decode cX9_years 85 = .ok (.iconst 3, 1) := by decide +kernel
theorem dX9_years_86 : decode cX9_years 86 = .ok (.iaload, 1) := by decide +kernel
theorem dX9_years_87 : decode cX9_years 87 = .ok (.ireturn, 1) := by decide +kernel
theorem dX9_seed_0 : decode cX9_seed 0 = .ok (.aload_n 0, 1) := by decide +kernel
theorem dX9_seed_1 : decode cX9_seed 1 = .ok (.getfield 69, 3) := by decide +kernel
theorem dX9_seed_4 : decode cX9_seed 4 = .ok (.istore_n 2, 1) := by decide +kernel
theorem dX9_seed_5 : decode cX9_seed 5 = .ok (.aload_n 0, 1) := by decide +kernel
theorem dX9_seed_6 : decode cX9_seed 6 = .ok (.iload_n 1, 1) := by decide +kernel
theorem dX9_seed_7 : decode cX9_seed 7 = .ok (.putfield 69, 3) := by decide +kernel
theorem dX9_seed_10 : decode cX9_seed 10 = .ok (.iload_n 2, 1) := by decide +kernel
theorem dX9_seed_11 : decode cX9_seed 11 = .ok (.ireturn, 1) := by decide +kernel
theorem dX9_ran_0 : decode cX9_ran 0 = .ok (.aload_n 0, 1) := by decide +kernel
theorem dX9_ran_1 : decode cX9_ran 1 = .ok (.getfield 287, 3) := by decide +kernel
theorem dX9_ran_4 : decode cX9_ran 4 = .ok (.bipush 20, 2) := by decide +kernel
theorem dX9_ran_6 : decode cX9_ran 6 = .ok (.if_icmp .ge 13, 3) := by decide +kernel
theorem dX9_ran_9 : decode cX9_ran 9 = .ok (.aload_n 0, 1) := by decide +kernel
theorem dX9_ran_10 : decode cX9_ran 10 = .ok (.getfield 51, 3) := by decide +kernel
theorem dX9_ran_13 : decode cX9_ran 13 = .ok (.aload_n 0, 1) := by decide +kernel
theorem dX9_ran_14 : decode cX9_ran 14 = .ok (.getfield 287, 3) := by decide +kernel
theorem dX9_ran_17 : decode cX9_ran 17 = .ok (.iload_n 1, 1) := by decide +kernel
theorem dX9_ran_18 : decode cX9_ran 18 = .ok (.iastore, 1) := by decide +kernel
theorem dX9_ran_19 : decode cX9_ran 19 = .ok (.aload_n 0, 1) := by decide +kernel
theorem dX9_ran_20 : decode cX9_ran 20 = .ok (.dup, 1) := by decide +kernel
theorem dX9_ran_21 : decode cX9_ran 21 = .ok (.getfield 287, 3) := by decide +kernel
theorem dX9_ran_24 : decode cX9_ran 24 = .ok (.iconst 1, 1) := by decide +kernel
theorem dX9_ran_25 : decode cX9_ran 25 = .ok (.iadd, 1) := by decide +kernel
theorem dX9_ran_26 : decode cX9_ran 26 = .ok (.putfield 287, 3) := by decide +kernel
theorem dX9_ran_29 : decode cX9_ran 29 = .ok (.return_, 1) := by decide +kernel
theorem dX9_runsBy_0 : decode cX9_runsBy 0 = .ok (.iload_n 2, 1) := by decide +kernel
theorem dX9_runsBy_1 : decode cX9_runsBy 1 = .ok (.tableswitch 122 0 6 #[43, 53, 122, 74, 90, 122, 106], 43) := by decide +kernel
theorem dX9_runsBy_44 : decode cX9_runsBy 44 = .ok (.aload_n 0, 1) := by decide +kernel
theorem dX9_runsBy_45 : decode cX9_runsBy 45 = .ok (.bipush 10, 2) := by decide +kernel
theorem dX9_runsBy_47 : decode cX9_runsBy 47 = .ok (.invokevirtual 290, 3) := by decide +kernel
theorem dX9_runsBy_50 : decode cX9_runsBy 50 = .ok (.iload_n 3, 1) := by decide +kernel
theorem dX9_runsBy_51 : decode cX9_runsBy 51 = .ok (.iload_n 1, 1) := by decide +kernel
theorem dX9_runsBy_52 : decode cX9_runsBy 52 = .ok (.iadd, 1) := by decide +kernel
theorem dX9_runsBy_53 : decode cX9_runsBy 53 = .ok (.ireturn, 1) := by decide +kernel
theorem dX9_runsBy_54 : decode cX9_runsBy 54 = .ok (.aload_n 0, 1) := by decide +kernel
theorem dX9_runsBy_55 : decode cX9_runsBy 55 = .ok (.bipush 20, 2) := by decide +kernel
theorem dX9_runsBy_57 : decode cX9_runsBy 57 = .ok (.invokevirtual 290, 3) := by decide +kernel
theorem dX9_runsBy_60 : decode cX9_runsBy 60 = .ok (.aload_n 0, 1) := by decide +kernel
theorem dX9_runsBy_61 : decode cX9_runsBy 61 = .ok (.iload_n 1, 1) := by decide +kernel
theorem dX9_runsBy_62 : decode cX9_runsBy 62 = .ok (.iconst 0, 1) := by decide +kernel
theorem dX9_runsBy_63 : decode cX9_runsBy 63 = .ok (.iload_n 3, 1) := by decide +kernel
theorem dX9_runsBy_64 : decode cX9_runsBy 64 = .ok (.invokevirtual 293, 3) := by decide +kernel
theorem dX9_runsBy_67 : decode cX9_runsBy 67 = .ok (.aload_n 0, 1) := by decide +kernel
theorem dX9_runsBy_68 : decode cX9_runsBy 68 = .ok (.getfield 13, 3) := by decide +kernel
theorem dX9_runsBy_71 : decode cX9_runsBy 71 = .ok (.iload_n 1, 1) := by decide +kernel
theorem dX9_runsBy_72 : decode cX9_runsBy 72 = .ok (.iaload, 1) := by decide +kernel
theorem dX9_runsBy_73 : decode cX9_runsBy 73 = .ok (.iadd, 1) := by decide +kernel
theorem dX9_runsBy_74 : decode cX9_runsBy 74 = .ok (.ireturn, 1) := by decide +kernel
theorem dX9_runsBy_75 : decode cX9_runsBy 75 = .ok (.aload_n 0, 1) := by decide +kernel
theorem dX9_runsBy_76 : decode cX9_runsBy 76 = .ok (.bipush 40, 2) := by decide +kernel
theorem dX9_runsBy_78 : decode cX9_runsBy 78 = .ok (.invokevirtual 290, 3) := by decide +kernel
theorem dX9_runsBy_81 : decode cX9_runsBy 81 = .ok (.aload_n 0, 1) := by decide +kernel
theorem dX9_runsBy_82 : decode cX9_runsBy 82 = .ok (.iload_n 1, 1) := by decide +kernel
theorem dX9_runsBy_83 : decode cX9_runsBy 83 = .ok (.iconst 1, 1) := by decide +kernel
theorem dX9_runsBy_84 : decode cX9_runsBy 84 = .ok (.iload_n 3, 1) := by decide +kernel
theorem dX9_runsBy_85 : decode cX9_runsBy 85 = .ok (.iconst 1, 1) := by decide +kernel
theorem dX9_runsBy_86 : decode cX9_runsBy 86 = .ok (.iadd, 1) := by decide +kernel
theorem dX9_runsBy_87 : decode cX9_runsBy 87 = .ok (.invokevirtual 293, 3) := by decide +kernel
theorem dX9_runsBy_90 : decode cX9_runsBy 90 = .ok (.ireturn, 1) := by decide +kernel
theorem dX9_runsBy_91 : decode cX9_runsBy 91 = .ok (.aload_n 0, 1) := by decide +kernel
theorem dX9_runsBy_92 : decode cX9_runsBy 92 = .ok (.bipush 51, 2) := by decide +kernel
theorem dX9_runsBy_94 : decode cX9_runsBy 94 = .ok (.invokevirtual 290, 3) := by decide +kernel
theorem dX9_runsBy_97 : decode cX9_runsBy 97 = .ok (.aload_n 0, 1) := by decide +kernel
theorem dX9_runsBy_98 : decode cX9_runsBy 98 = .ok (.iload_n 1, 1) := by decide +kernel
theorem dX9_runsBy_99 : decode cX9_runsBy 99 = .ok (.iconst 0, 1) := by decide +kernel
theorem dX9_runsBy_100 : decode cX9_runsBy 100 = .ok (.iload_n 3, 1) := by decide +kernel
theorem dX9_runsBy_101 : decode cX9_runsBy 101 = .ok (.invokevirtual 293, 3) := by decide +kernel
theorem dX9_runsBy_104 : decode cX9_runsBy 104 = .ok (.iload_n 1, 1) := by decide +kernel
theorem dX9_runsBy_105 : decode cX9_runsBy 105 = .ok (.isub, 1) := by decide +kernel
theorem dX9_runsBy_106 : decode cX9_runsBy 106 = .ok (.ireturn, 1) := by decide +kernel
theorem dX9_runsBy_107 : decode cX9_runsBy 107 = .ok (.aload_n 0, 1) := by decide +kernel
theorem dX9_runsBy_108 : decode cX9_runsBy 108 = .ok (.bipush 70, 2) := by decide +kernel
theorem dX9_runsBy_110 : decode cX9_runsBy 110 = .ok (.invokevirtual 290, 3) := by decide +kernel
theorem dX9_runsBy_113 : decode cX9_runsBy 113 = .ok (.aload_n 0, 1) := by decide +kernel
theorem dX9_runsBy_114 : decode cX9_runsBy 114 = .ok (.iload_n 1, 1) := by decide +kernel
theorem dX9_runsBy_115 : decode cX9_runsBy 115 = .ok (.iconst 3, 1) := by decide +kernel
theorem dX9_runsBy_116 : decode cX9_runsBy 116 = .ok (.iload_n 3, 1) := by decide +kernel
theorem dX9_runsBy_117 : decode cX9_runsBy 117 = .ok (.invokevirtual 293, 3) := by decide +kernel
theorem dX9_runsBy_120 : decode cX9_runsBy 120 = .ok (.iconst 2, 1) := by decide +kernel
theorem dX9_runsBy_121 : decode cX9_runsBy 121 = .ok (.imul, 1) := by decide +kernel
theorem dX9_runsBy_122 : decode cX9_runsBy 122 = .ok (.ireturn, 1) := by decide +kernel
theorem dX9_runsBy_123 : decode cX9_runsBy 123 = .ok (.aload_n 0, 1) := by decide +kernel
theorem dX9_runsBy_124 : decode cX9_runsBy 124 = .ok (.iload_n 1, 1) := by decide +kernel
theorem dX9_runsBy_125 : decode cX9_runsBy 125 = .ok (.iload_n 2, 1) := by decide +kernel
theorem dX9_runsBy_126 : decode cX9_runsBy 126 = .ok (.invokestatic 100, 3) := by decide +kernel
theorem dX9_runsBy_129 : decode cX9_runsBy 129 = .ok (.iload_n 3, 1) := by decide +kernel
theorem dX9_runsBy_130 : decode cX9_runsBy 130 = .ok (.invokevirtual 293, 3) := by decide +kernel
theorem dX9_runsBy_133 : decode cX9_runsBy 133 = .ok (.ireturn, 1) := by decide +kernel
theorem dX9_hidesBy_0 : decode cX9_hidesBy 0 = .ok (.iload_n 2, 1) := by decide +kernel
theorem dX9_hidesBy_1 : decode cX9_hidesBy 1 = .ok (.lookupswitch 93 #[(0, 35), (2, 56), (6, 72)], 35) := by decide +kernel
theorem dX9_hidesBy_36 : decode cX9_hidesBy 36 = .ok (.aload_n 0, 1) := by decide +kernel
theorem dX9_hidesBy_37 : decode cX9_hidesBy 37 = .ok (.bipush 11, 2) := by decide +kernel
theorem dX9_hidesBy_39 : decode cX9_hidesBy 39 = .ok (.invokevirtual 290, 3) := by decide +kernel
theorem dX9_hidesBy_42 : decode cX9_hidesBy 42 = .ok (.aload_n 0, 1) := by decide +kernel
theorem dX9_hidesBy_43 : decode cX9_hidesBy 43 = .ok (.iload_n 1, 1) := by decide +kernel
theorem dX9_hidesBy_44 : decode cX9_hidesBy 44 = .ok (.aload_n 0, 1) := by decide +kernel
theorem dX9_hidesBy_45 : decode cX9_hidesBy 45 = .ok (.getfield 7, 3) := by decide +kernel
theorem dX9_hidesBy_48 : decode cX9_hidesBy 48 = .ok (.iload_n 1, 1) := by decide +kernel
theorem dX9_hidesBy_49 : decode cX9_hidesBy 49 = .ok (.iaload, 1) := by decide +kernel
theorem dX9_hidesBy_50 : decode cX9_hidesBy 50 = .ok (.iload_n 3, 1) := by decide +kernel
theorem dX9_hidesBy_51 : decode cX9_hidesBy 51 = .ok (.invokevirtual 293, 3) := by decide +kernel
theorem dX9_hidesBy_54 : decode cX9_hidesBy 54 = .ok (.iconst 2, 1) := by decide +kernel
theorem dX9_hidesBy_55 : decode cX9_hidesBy 55 = .ok (.imul, 1) := by decide +kernel
theorem dX9_hidesBy_56 : decode cX9_hidesBy 56 = .ok (.ireturn, 1) := by decide +kernel
theorem dX9_hidesBy_57 : decode cX9_hidesBy 57 = .ok (.aload_n 0, 1) := by decide +kernel
theorem dX9_hidesBy_58 : decode cX9_hidesBy 58 = .ok (.bipush 30, 2) := by decide +kernel
theorem dX9_hidesBy_60 : decode cX9_hidesBy 60 = .ok (.invokevirtual 290, 3) := by decide +kernel
theorem dX9_hidesBy_63 : decode cX9_hidesBy 63 = .ok (.aload_n 0, 1) := by decide +kernel
theorem dX9_hidesBy_64 : decode cX9_hidesBy 64 = .ok (.iload_n 1, 1) := by decide +kernel
theorem dX9_hidesBy_65 : decode cX9_hidesBy 65 = .ok (.iconst 0, 1) := by decide +kernel
theorem dX9_hidesBy_66 : decode cX9_hidesBy 66 = .ok (.iload_n 3, 1) := by decide +kernel
theorem dX9_hidesBy_67 : decode cX9_hidesBy 67 = .ok (.invokevirtual 297, 3) := by decide +kernel
theorem dX9_hidesBy_70 : decode cX9_hidesBy 70 = .ok (.iconst 3, 1) := by decide +kernel
theorem dX9_hidesBy_71 : decode cX9_hidesBy 71 = .ok (.imul, 1) := by decide +kernel
theorem dX9_hidesBy_72 : decode cX9_hidesBy 72 = .ok (.ireturn, 1) := by decide +kernel
theorem dX9_hidesBy_73 : decode cX9_hidesBy 73 = .ok (.aload_n 0, 1) := by decide +kernel
theorem dX9_hidesBy_74 : decode cX9_hidesBy 74 = .ok (.bipush 71, 2) := by decide +kernel
theorem dX9_hidesBy_76 : decode cX9_hidesBy 76 = .ok (.invokevirtual 290, 3) := by decide +kernel
theorem dX9_hidesBy_79 : decode cX9_hidesBy 79 = .ok (.aload_n 0, 1) := by decide +kernel
theorem dX9_hidesBy_80 : decode cX9_hidesBy 80 = .ok (.iload_n 1, 1) := by decide +kernel
theorem dX9_hidesBy_81 : decode cX9_hidesBy 81 = .ok (.iconst 3, 1) := by decide +kernel
theorem dX9_hidesBy_82 : decode cX9_hidesBy 82 = .ok (.iload_n 3, 1) := by decide +kernel
theorem dX9_hidesBy_83 : decode cX9_hidesBy 83 = .ok (.aload_n 0, 1) := by decide +kernel
theorem dX9_hidesBy_84 : decode cX9_hidesBy 84 = .ok (.getfield 13, 3) := by decide +kernel
theorem dX9_hidesBy_87 : decode cX9_hidesBy 87 = .ok (.iload_n 1, 1) := by decide +kernel
theorem dX9_hidesBy_88 : decode cX9_hidesBy 88 = .ok (.iaload, 1) := by decide +kernel
theorem dX9_hidesBy_89 : decode cX9_hidesBy 89 = .ok (.isub, 1) := by decide +kernel
theorem dX9_hidesBy_90 : decode cX9_hidesBy 90 = .ok (.invokevirtual 297, 3) := by decide +kernel
theorem dX9_hidesBy_93 : decode cX9_hidesBy 93 = .ok (.ireturn, 1) := by decide +kernel
theorem dX9_hidesBy_94 : decode cX9_hidesBy 94 = .ok (.aload_n 0, 1) := by decide +kernel
theorem dX9_hidesBy_95 : decode cX9_hidesBy 95 = .ok (.iload_n 1, 1) := by decide +kernel
theorem dX9_hidesBy_96 : decode cX9_hidesBy 96 = .ok (.iload_n 2, 1) := by decide +kernel
theorem dX9_hidesBy_97 : decode cX9_hidesBy 97 = .ok (.invokestatic 100, 3) := by decide +kernel
theorem dX9_hidesBy_100 : decode cX9_hidesBy 100 = .ok (.iload_n 3, 1) := by decide +kernel
theorem dX9_hidesBy_101 : decode cX9_hidesBy 101 = .ok (.invokevirtual 297, 3) := by decide +kernel
theorem dX9_hidesBy_104 : decode cX9_hidesBy 104 = .ok (.ireturn, 1) := by decide +kernel
theorem dX9_sitsBy_0 : decode cX9_sitsBy 0 = .ok (.iload_n 2, 1) := by decide +kernel
theorem dX9_sitsBy_1 : decode cX9_sitsBy 1 = .ok (.lookupswitch 109 #[(0, 35), (4, 78), (5, 93)], 35) := by decide +kernel
theorem dX9_sitsBy_36 : decode cX9_sitsBy 36 = .ok (.aload_n 0, 1) := by decide +kernel
theorem dX9_sitsBy_37 : decode cX9_sitsBy 37 = .ok (.bipush 12, 2) := by decide +kernel
theorem dX9_sitsBy_39 : decode cX9_sitsBy 39 = .ok (.invokevirtual 290, 3) := by decide +kernel
theorem dX9_sitsBy_42 : decode cX9_sitsBy 42 = .ok (.aload_n 0, 1) := by decide +kernel
theorem dX9_sitsBy_43 : decode cX9_sitsBy 43 = .ok (.iload_n 1, 1) := by decide +kernel
theorem dX9_sitsBy_44 : decode cX9_sitsBy 44 = .ok (.aload_n 0, 1) := by decide +kernel
theorem dX9_sitsBy_45 : decode cX9_sitsBy 45 = .ok (.getfield 7, 3) := by decide +kernel
theorem dX9_sitsBy_48 : decode cX9_sitsBy 48 = .ok (.iload_n 1, 1) := by decide +kernel
theorem dX9_sitsBy_49 : decode cX9_sitsBy 49 = .ok (.iaload, 1) := by decide +kernel
theorem dX9_sitsBy_50 : decode cX9_sitsBy 50 = .ok (.iload_n 3, 1) := by decide +kernel
theorem dX9_sitsBy_51 : decode cX9_sitsBy 51 = .ok (.invokevirtual 297, 3) := by decide +kernel
theorem dX9_sitsBy_54 : decode cX9_sitsBy 54 = .ok (.istore 4, 2) := by decide +kernel
theorem dX9_sitsBy_56 : decode cX9_sitsBy 56 = .ok (.iload 4, 2) := by decide +kernel
theorem dX9_sitsBy_58 : decode cX9_sitsBy 58 = .ok (.aload_n 0, 1) := by decide +kernel
theorem dX9_sitsBy_59 : decode cX9_sitsBy 59 = .ok (.iload_n 1, 1) := by decide +kernel
theorem dX9_sitsBy_60 : decode cX9_sitsBy 60 = .ok (.aload_n 0, 1) := by decide +kernel
theorem dX9_sitsBy_61 : decode cX9_sitsBy 61 = .ok (.getfield 7, 3) := by decide +kernel
theorem dX9_sitsBy_64 : decode cX9_sitsBy 64 = .ok (.iload_n 1, 1) := by decide +kernel
theorem dX9_sitsBy_65 : decode cX9_sitsBy 65 = .ok (.iaload, 1) := by decide +kernel
theorem dX9_sitsBy_66 : decode cX9_sitsBy 66 = .ok (.iload_n 3, 1) := by decide +kernel
theorem dX9_sitsBy_67 : decode cX9_sitsBy 67 = .ok (.aload_n 0, 1) := by decide +kernel
theorem dX9_sitsBy_68 : decode cX9_sitsBy 68 = .ok (.getfield 13, 3) := by decide +kernel
theorem dX9_sitsBy_71 : decode cX9_sitsBy 71 = .ok (.iload_n 1, 1) := by decide +kernel
theorem dX9_sitsBy_72 : decode cX9_sitsBy 72 = .ok (.iaload, 1) := by decide +kernel
theorem dX9_sitsBy_73 : decode cX9_sitsBy 73 = .ok (.isub, 1) := by decide +kernel
theorem dX9_sitsBy_74 : decode cX9_sitsBy 74 = .ok (.invokevirtual 293, 3) := by decide +kernel
theorem dX9_sitsBy_77 : decode cX9_sitsBy 77 = .ok (.ixor, 1) := by decide +kernel
theorem dX9_sitsBy_78 : decode cX9_sitsBy 78 = .ok (.ireturn, 1) := by decide +kernel
theorem dX9_sitsBy_79 : decode cX9_sitsBy 79 = .ok (.aload_n 0, 1) := by decide +kernel
theorem dX9_sitsBy_80 : decode cX9_sitsBy 80 = .ok (.bipush 50, 2) := by decide +kernel
theorem dX9_sitsBy_82 : decode cX9_sitsBy 82 = .ok (.invokevirtual 290, 3) := by decide +kernel
theorem dX9_sitsBy_85 : decode cX9_sitsBy 85 = .ok (.aload_n 0, 1) := by decide +kernel
theorem dX9_sitsBy_86 : decode cX9_sitsBy 86 = .ok (.iload_n 1, 1) := by decide +kernel
theorem dX9_sitsBy_87 : decode cX9_sitsBy 87 = .ok (.iconst 0, 1) := by decide +kernel
theorem dX9_sitsBy_88 : decode cX9_sitsBy 88 = .ok (.iload_n 3, 1) := by decide +kernel
theorem dX9_sitsBy_89 : decode cX9_sitsBy 89 = .ok (.invokevirtual 300, 3) := by decide +kernel
theorem dX9_sitsBy_92 : decode cX9_sitsBy 92 = .ok (.ineg, 1) := by decide +kernel
theorem dX9_sitsBy_93 : decode cX9_sitsBy 93 = .ok (.ireturn, 1) := by decide +kernel
theorem dX9_sitsBy_94 : decode cX9_sitsBy 94 = .ok (.aload_n 0, 1) := by decide +kernel
theorem dX9_sitsBy_95 : decode cX9_sitsBy 95 = .ok (.bipush 60, 2) := by decide +kernel
theorem dX9_sitsBy_97 : decode cX9_sitsBy 97 = .ok (.invokevirtual 290, 3) := by decide +kernel
theorem dX9_sitsBy_100 : decode cX9_sitsBy 100 = .ok (.aload_n 0, 1) := by decide +kernel
theorem dX9_sitsBy_101 : decode cX9_sitsBy 101 = .ok (.iload_n 1, 1) := by decide +kernel
theorem dX9_sitsBy_102 : decode cX9_sitsBy 102 = .ok (.iconst 2, 1) := by decide +kernel
theorem dX9_sitsBy_103 : decode cX9_sitsBy 103 = .ok (.iload_n 3, 1) := by decide +kernel
theorem dX9_sitsBy_104 : decode cX9_sitsBy 104 = .ok (.invokevirtual 300, 3) := by decide +kernel
theorem dX9_sitsBy_107 : decode cX9_sitsBy 107 = .ok (.iconst 5, 1) := by decide +kernel
theorem dX9_sitsBy_108 : decode cX9_sitsBy 108 = .ok (.ixor, 1) := by decide +kernel
theorem dX9_sitsBy_109 : decode cX9_sitsBy 109 = .ok (.ireturn, 1) := by decide +kernel
theorem dX9_sitsBy_110 : decode cX9_sitsBy 110 = .ok (.aload_n 0, 1) := by decide +kernel
theorem dX9_sitsBy_111 : decode cX9_sitsBy 111 = .ok (.iload_n 1, 1) := by decide +kernel
theorem dX9_sitsBy_112 : decode cX9_sitsBy 112 = .ok (.iload_n 2, 1) := by decide +kernel
theorem dX9_sitsBy_113 : decode cX9_sitsBy 113 = .ok (.invokestatic 100, 3) := by decide +kernel
theorem dX9_sitsBy_116 : decode cX9_sitsBy 116 = .ok (.iload_n 3, 1) := by decide +kernel
theorem dX9_sitsBy_117 : decode cX9_sitsBy 117 = .ok (.invokevirtual 300, 3) := by decide +kernel
theorem dX9_sitsBy_120 : decode cX9_sitsBy 120 = .ok (.ireturn, 1) := by decide +kernel
theorem dX9_act_0 : decode cX9_act 0 = .ok (.aload_n 0, 1) := by decide +kernel
theorem dX9_act_1 : decode cX9_act 1 = .ok (.iconst 0, 1) := by decide +kernel
theorem dX9_act_2 : decode cX9_act 2 = .ok (.putfield 287, 3) := by decide +kernel
theorem dX9_act_5 : decode cX9_act 5 = .ok (.aload_n 0, 1) := by decide +kernel
theorem dX9_act_6 : decode cX9_act 6 = .ok (.iload_n 1, 1) := by decide +kernel
theorem dX9_act_7 : decode cX9_act 7 = .ok (.invokevirtual 97, 3) := by decide +kernel
theorem dX9_act_10 : decode cX9_act 10 = .ok (.ifCond .eq 12, 3) := by decide +kernel
theorem dX9_act_13 : decode cX9_act 13 = .ok (.iload_n 2, 1) := by decide +kernel
theorem dX9_act_14 : decode cX9_act 14 = .ok (.iconst 0, 1) := by decide +kernel
theorem dX9_act_15 : decode cX9_act 15 = .ok (.iconst 2, 1) := by decide +kernel
theorem dX9_act_16 : decode cX9_act 16 = .ok (.invokestatic 86, 3) := by decide +kernel
theorem dX9_act_19 : decode cX9_act 19 = .ok (.ifCond .ne 5, 3) := by decide +kernel
theorem dX9_act_22 : decode cX9_act 22 = .ok (.iconst 0, 1) := by decide +kernel
theorem dX9_act_23 : decode cX9_act 23 = .ok (.ireturn, 1) := by decide +kernel
theorem dX9_act_24 : decode cX9_act 24 = .ok (.aload_n 0, 1) := by decide +kernel
theorem dX9_act_25 : decode cX9_act 25 = .ok (.getfield 7, 3) := by decide +kernel
theorem dX9_act_28 : decode cX9_act 28 = .ok (.iload_n 1, 1) := by decide +kernel
theorem dX9_act_29 : decode cX9_act 29 = .ok (.iaload, 1) := by decide +kernel
theorem dX9_act_30 : decode cX9_act 30 = .ok (.istore 4, 2) := by decide +kernel
theorem dX9_act_32 : decode cX9_act 32 = .ok (.iload_n 2, 1) := by decide +kernel
theorem dX9_act_33 : decode cX9_act 33 = .ok (.ifCond .ne 14, 3) := by decide +kernel
theorem dX9_act_36 : decode cX9_act 36 = .ok (.aload_n 0, 1) := by decide +kernel
theorem dX9_act_37 : decode cX9_act 37 = .ok (.iload_n 1, 1) := by decide +kernel
theorem dX9_act_38 : decode cX9_act 38 = .ok (.iload 4, 2) := by decide +kernel
theorem dX9_act_40 : decode cX9_act 40 = .ok (.iload_n 3, 1) := by decide +kernel
theorem dX9_act_41 : decode cX9_act 41 = .ok (.invokevirtual 293, 3) := by decide +kernel
theorem dX9_act_44 : decode cX9_act 44 = .ok (.goto 27, 3) := by decide +kernel
theorem dX9_act_47 : decode cX9_act 47 = .ok (.iload_n 2, 1) := by decide +kernel
theorem dX9_act_48 : decode cX9_act 48 = .ok (.iconst 1, 1) := by decide +kernel
theorem dX9_act_49 : decode cX9_act 49 = .ok (.if_icmp .ne 14, 3) := by decide +kernel
theorem dX9_act_52 : decode cX9_act 52 = .ok (.aload_n 0, 1) := by decide +kernel
theorem dX9_act_53 : decode cX9_act 53 = .ok (.iload_n 1, 1) := by decide +kernel
theorem dX9_act_54 : decode cX9_act 54 = .ok (.iload 4, 2) := by decide +kernel
theorem dX9_act_56 : decode cX9_act 56 = .ok (.iload_n 3, 1) := by decide +kernel
theorem dX9_act_57 : decode cX9_act 57 = .ok (.invokevirtual 297, 3) := by decide +kernel
theorem dX9_act_60 : decode cX9_act 60 = .ok (.goto 11, 3) := by decide +kernel
theorem dX9_act_63 : decode cX9_act 63 = .ok (.aload_n 0, 1) := by decide +kernel
theorem dX9_act_64 : decode cX9_act 64 = .ok (.iload_n 1, 1) := by decide +kernel
theorem dX9_act_65 : decode cX9_act 65 = .ok (.iload 4, 2) := by decide +kernel
theorem dX9_act_67 : decode cX9_act 67 = .ok (.iload_n 3, 1) := by decide +kernel
theorem dX9_act_68 : decode cX9_act 68 = .ok (.invokevirtual 300, 3) := by decide +kernel
theorem dX9_act_71 : decode cX9_act 71 = .ok (.ireturn, 1) := by decide +kernel
theorem dX9_trace_0 : decode cX9_trace 0 = .ok (.iload_n 1, 1) := by decide +kernel
theorem dX9_trace_1 : decode cX9_trace 1 = .ok (.ifCond .lt 26, 3) := by decide +kernel
theorem dX9_trace_4 : decode cX9_trace 4 = .ok (.iload_n 1, 1) := by decide +kernel
theorem dX9_trace_5 : decode cX9_trace 5 = .ok (.aload_n 0, 1) := by decide +kernel
theorem dX9_trace_6 : decode cX9_trace 6 = .ok (.getfield 287, 3) := by decide +kernel
theorem dX9_trace_9 : decode cX9_trace 9 = .ok (.if_icmp .ge 18, 3) := by decide +kernel
theorem dX9_trace_12 : decode cX9_trace 12 = .ok (.iload_n 1, 1) := by decide +kernel
theorem dX9_trace_13 : decode cX9_trace 13 = .ok (.bipush 20, 2) := by decide +kernel
theorem dX9_trace_15 : decode cX9_trace 15 = .ok (.if_icmp .ge 12, 3) := by decide +kernel
theorem dX9_trace_18 : decode cX9_trace 18 = .ok (.aload_n 0, 1) := by decide +kernel
theorem dX9_trace_19 : decode cX9_trace 19 = .ok (.getfield 51, 3) := by decide +kernel
theorem dX9_trace_22 : decode cX9_trace 22 = .ok (.iload_n 1, 1) := by decide +kernel
theorem dX9_trace_23 : decode cX9_trace 23 = .ok (.iaload, 1) := by decide +kernel
theorem dX9_trace_24 : decode cX9_trace 24 = .ok (.goto 4, 3) := by decide +kernel
theorem dX9_trace_27 : decode cX9_trace 27 = .ok (.iconst (-1), 1) := by decide +kernel
theorem dX9_trace_28 : decode cX9_trace 28 = .ok (.ireturn, 1) := by decide +kernel
theorem dX9_keep_0 : decode cX9_keep 0 = .ok (.iconst 0, 1) := by decide +kernel
theorem dX9_keep_1 : decode cX9_keep 1 = .ok (.istore_n 2, 1) := by decide +kernel
theorem dX9_keep_2 : decode cX9_keep 2 = .ok (.iload_n 2, 1) := by decide +kernel
theorem dX9_keep_3 : decode cX9_keep 3 = .ok (.bipush 7, 2) := by decide +kernel
theorem dX9_keep_5 : decode cX9_keep 5 = .ok (.if_icmp .ge 78, 3) := by decide +kernel
theorem dX9_keep_8 : decode cX9_keep 8 = .ok (.aload_n 1, 1) := by decide +kernel
theorem dX9_keep_9 : decode cX9_keep 9 = .ok (.iload_n 2, 1) := by decide +kernel
theorem dX9_keep_10 : decode cX9_keep 10 = .ok (.aload_n 0, 1) := by decide +kernel
theorem dX9_keep_11 : decode cX9_keep 11 = .ok (.getfield 7, 3) := by decide +kernel
theorem dX9_keep_14 : decode cX9_keep 14 = .ok (.iload_n 2, 1) := by decide +kernel
theorem dX9_keep_15 : decode cX9_keep 15 = .ok (.iaload, 1) := by decide +kernel
theorem dX9_keep_16 : decode cX9_keep 16 = .ok (.iastore, 1) := by decide +kernel
theorem dX9_keep_17 : decode cX9_keep 17 = .ok (.aload_n 1, 1) := by decide +kernel
theorem dX9_keep_18 : decode cX9_keep 18 = .ok (.bipush 7, 2) := by decide +kernel
theorem dX9_keep_20 : decode cX9_keep 20 = .ok (.iload_n 2, 1) := by decide +kernel
theorem dX9_keep_21 : decode cX9_keep 21 = .ok (.iadd, 1) := by decide +kernel
theorem dX9_keep_22 : decode cX9_keep 22 = .ok (.aload_n 0, 1) := by decide +kernel
theorem dX9_keep_23 : decode cX9_keep 23 = .ok (.getfield 13, 3) := by decide +kernel
theorem dX9_keep_26 : decode cX9_keep 26 = .ok (.iload_n 2, 1) := by decide +kernel
theorem dX9_keep_27 : decode cX9_keep 27 = .ok (.iaload, 1) := by decide +kernel
theorem dX9_keep_28 : decode cX9_keep 28 = .ok (.iastore, 1) := by decide +kernel
theorem dX9_keep_29 : decode cX9_keep 29 = .ok (.aload_n 1, 1) := by decide +kernel
theorem dX9_keep_30 : decode cX9_keep 30 = .ok (.bipush 14, 2) := by decide +kernel
theorem dX9_keep_32 : decode cX9_keep 32 = .ok (.iload_n 2, 1) := by decide +kernel
theorem dX9_keep_33 : decode cX9_keep 33 = .ok (.iadd, 1) := by decide +kernel
theorem dX9_keep_34 : decode cX9_keep 34 = .ok (.aload_n 0, 1) := by decide +kernel
theorem dX9_keep_35 : decode cX9_keep 35 = .ok (.getfield 16, 3) := by decide +kernel
theorem dX9_keep_38 : decode cX9_keep 38 = .ok (.iload_n 2, 1) := by decide +kernel
theorem dX9_keep_39 : decode cX9_keep 39 = .ok (.iaload, 1) := by decide +kernel
theorem dX9_keep_40 : decode cX9_keep 40 = .ok (.iastore, 1) := by decide +kernel
theorem dX9_keep_41 : decode cX9_keep 41 = .ok (.aload_n 1, 1) := by decide +kernel
theorem dX9_keep_42 : decode cX9_keep 42 = .ok (.bipush 21, 2) := by decide +kernel
theorem dX9_keep_44 : decode cX9_keep 44 = .ok (.iload_n 2, 1) := by decide +kernel
theorem dX9_keep_45 : decode cX9_keep 45 = .ok (.iadd, 1) := by decide +kernel
theorem dX9_keep_46 : decode cX9_keep 46 = .ok (.aload_n 0, 1) := by decide +kernel
theorem dX9_keep_47 : decode cX9_keep 47 = .ok (.getfield 19, 3) := by decide +kernel
theorem dX9_keep_50 : decode cX9_keep 50 = .ok (.iload_n 2, 1) := by decide +kernel
theorem dX9_keep_51 : decode cX9_keep 51 = .ok (.iaload, 1) := by decide +kernel
theorem dX9_keep_52 : decode cX9_keep 52 = .ok (.iastore, 1) := by decide +kernel
theorem dX9_keep_53 : decode cX9_keep 53 = .ok (.aload_n 1, 1) := by decide +kernel
theorem dX9_keep_54 : decode cX9_keep 54 = .ok (.bipush 28, 2) := by decide +kernel
theorem dX9_keep_56 : decode cX9_keep 56 = .ok (.iload_n 2, 1) := by decide +kernel
theorem dX9_keep_57 : decode cX9_keep 57 = .ok (.iadd, 1) := by decide +kernel
theorem dX9_keep_58 : decode cX9_keep 58 = .ok (.aload_n 0, 1) := by decide +kernel
theorem dX9_keep_59 : decode cX9_keep 59 = .ok (.getfield 22, 3) := by decide +kernel
theorem dX9_keep_62 : decode cX9_keep 62 = .ok (.iload_n 2, 1) := by decide +kernel
theorem dX9_keep_63 : decode cX9_keep 63 = .ok (.iaload, 1) := by decide +kernel
theorem dX9_keep_64 : decode cX9_keep 64 = .ok (.iastore, 1) := by decide +kernel
theorem dX9_keep_65 : decode cX9_keep 65 = .ok (.aload_n 1, 1) := by decide +kernel
theorem dX9_keep_66 : decode cX9_keep 66 = .ok (.bipush 35, 2) := by decide +kernel
theorem dX9_keep_68 : decode cX9_keep 68 = .ok (.iload_n 2, 1) := by decide +kernel
theorem dX9_keep_69 : decode cX9_keep 69 = .ok (.iadd, 1) := by decide +kernel
theorem dX9_keep_70 : decode cX9_keep 70 = .ok (.aload_n 0, 1) := by decide +kernel
theorem dX9_keep_71 : decode cX9_keep 71 = .ok (.getfield 25, 3) := by decide +kernel
theorem dX9_keep_74 : decode cX9_keep 74 = .ok (.iload_n 2, 1) := by decide +kernel
theorem dX9_keep_75 : decode cX9_keep 75 = .ok (.iaload, 1) := by decide +kernel
theorem dX9_keep_76 : decode cX9_keep 76 = .ok (.iastore, 1) := by decide +kernel
theorem dX9_keep_77 : decode cX9_keep 77 = .ok (.iinc 2 1, 3) := by decide +kernel
theorem dX9_keep_80 : decode cX9_keep 80 = .ok (.goto (-78), 3) := by decide +kernel
theorem dX9_keep_83 : decode cX9_keep 83 = .ok (.iconst 0, 1) := by decide +kernel
theorem dX9_keep_84 : decode cX9_keep 84 = .ok (.istore_n 2, 1) := by decide +kernel
theorem dX9_keep_85 : decode cX9_keep 85 = .ok (.iload_n 2, 1) := by decide +kernel
theorem dX9_keep_86 : decode cX9_keep 86 = .ok (.bipush 49, 2) := by decide +kernel
theorem dX9_keep_88 : decode cX9_keep 88 = .ok (.if_icmp .ge 29, 3) := by decide +kernel
theorem dX9_keep_91 : decode cX9_keep 91 = .ok (.aload_n 1, 1) := by decide +kernel
theorem dX9_keep_92 : decode cX9_keep 92 = .ok (.bipush 42, 2) := by decide +kernel
theorem dX9_keep_94 : decode cX9_keep 94 = .ok (.iload_n 2, 1) := by decide +kernel
theorem dX9_keep_95 : decode cX9_keep 95 = .ok (.iadd, 1) := by decide +kernel
theorem dX9_keep_96 : decode cX9_keep 96 = .ok (.aload_n 0, 1) := by decide +kernel
theorem dX9_keep_97 : decode cX9_keep 97 = .ok (.getfield 28, 3) := by decide +kernel
theorem dX9_keep_100 : decode cX9_keep 100 = .ok (.iload_n 2, 1) := by decide +kernel
theorem dX9_keep_101 : decode cX9_keep 101 = .ok (.baload, 1) := by decide +kernel
theorem dX9_keep_102 : decode cX9_keep 102 = .ok (.ifCond .eq 7, 3) := by decide +kernel
theorem dX9_keep_105 : decode cX9_keep 105 = .ok (.iconst 1, 1) := by decide +kernel
theorem dX9_keep_106 : decode cX9_keep 106 = .ok (.goto 4, 3) := by decide +kernel
theorem dX9_keep_109 : decode cX9_keep 109 = .ok (.iconst 0, 1) := by decide +kernel
theorem dX9_keep_110 : decode cX9_keep 110 = .ok (.iastore, 1) := by decide +kernel
theorem dX9_keep_111 : decode cX9_keep 111 = .ok (.iinc 2 1, 3) := by decide +kernel
theorem dX9_keep_114 : decode cX9_keep 114 = .ok (.goto (-29), 3) := by decide +kernel
theorem dX9_keep_117 : decode cX9_keep 117 = .ok (.iconst 0, 1) := by decide +kernel
theorem dX9_keep_118 : decode cX9_keep 118 = .ok (.istore_n 2, 1) := by decide +kernel
theorem dX9_keep_119 : decode cX9_keep 119 = .ok (.iload_n 2, 1) := by decide +kernel
theorem dX9_keep_120 : decode cX9_keep 120 = .ok (.iconst 4, 1) := by decide +kernel
theorem dX9_keep_121 : decode cX9_keep 121 = .ok (.if_icmp .ge 21, 3) := by decide +kernel
theorem dX9_keep_124 : decode cX9_keep 124 = .ok (.aload_n 1, 1) := by decide +kernel
theorem dX9_keep_125 : decode cX9_keep 125 = .ok (.bipush 91, 2) := by decide +kernel
theorem dX9_keep_127 : decode cX9_keep 127 = .ok (.iload_n 2, 1) := by decide +kernel
theorem dX9_keep_128 : decode cX9_keep 128 = .ok (.iadd, 1) := by decide +kernel
theorem dX9_keep_129 : decode cX9_keep 129 = .ok (.aload_n 0, 1) := by decide +kernel
theorem dX9_keep_130 : decode cX9_keep 130 = .ok (.getfield 32, 3) := by decide +kernel
theorem dX9_keep_133 : decode cX9_keep 133 = .ok (.iload_n 2, 1) := by decide +kernel
theorem dX9_keep_134 : decode cX9_keep 134 = .ok (.iaload, 1) := by decide +kernel
theorem dX9_keep_135 : decode cX9_keep 135 = .ok (.iastore, 1) := by decide +kernel
theorem dX9_keep_136 : decode cX9_keep 136 = .ok (.iinc 2 1, 3) := by decide +kernel
theorem dX9_keep_139 : decode cX9_keep 139 = .ok (.goto (-20), 3) := by decide +kernel
theorem dX9_keep_142 : decode cX9_keep 142 = .ok (.aload_n 1, 1) := by decide +kernel
theorem dX9_keep_143 : decode cX9_keep 143 = .ok (.bipush 95, 2) := by decide +kernel
theorem dX9_keep_145 : decode cX9_keep 145 = .ok (.aload_n 0, 1) := by decide +kernel
theorem dX9_keep_146 : decode cX9_keep 146 = .ok (.getfield 83, 3) := by decide +kernel
theorem dX9_keep_149 : decode cX9_keep 149 = .ok (.iastore, 1) := by decide +kernel
theorem dX9_keep_150 : decode cX9_keep 150 = .ok (.return_, 1) := by decide +kernel
theorem dX9_again_0 : decode cX9_again 0 = .ok (.iconst 0, 1) := by decide +kernel
theorem dX9_again_1 : decode cX9_again 1 = .ok (.istore_n 2, 1) := by decide +kernel
theorem dX9_again_2 : decode cX9_again 2 = .ok (.iload_n 2, 1) := by decide +kernel
theorem dX9_again_3 : decode cX9_again 3 = .ok (.bipush 7, 2) := by decide +kernel
theorem dX9_again_5 : decode cX9_again 5 = .ok (.if_icmp .ge 78, 3) := by decide +kernel
theorem dX9_again_8 : decode cX9_again 8 = .ok (.aload_n 0, 1) := by decide +kernel
theorem dX9_again_9 : decode cX9_again 9 = .ok (.getfield 7, 3) := by decide +kernel
theorem dX9_again_12 : decode cX9_again 12 = .ok (.iload_n 2, 1) := by decide +kernel
theorem dX9_again_13 : decode cX9_again 13 = .ok (.aload_n 1, 1) := by decide +kernel
theorem dX9_again_14 : decode cX9_again 14 = .ok (.iload_n 2, 1) := by decide +kernel
theorem dX9_again_15 : decode cX9_again 15 = .ok (.iaload, 1) := by decide +kernel
theorem dX9_again_16 : decode cX9_again 16 = .ok (.iastore, 1) := by decide +kernel
theorem dX9_again_17 : decode cX9_again 17 = .ok (.aload_n 0, 1) := by decide +kernel
theorem dX9_again_18 : decode cX9_again 18 = .ok (.getfield 13, 3) := by decide +kernel
theorem dX9_again_21 : decode cX9_again 21 = .ok (.iload_n 2, 1) := by decide +kernel
theorem dX9_again_22 : decode cX9_again 22 = .ok (.aload_n 1, 1) := by decide +kernel
theorem dX9_again_23 : decode cX9_again 23 = .ok (.bipush 7, 2) := by decide +kernel
theorem dX9_again_25 : decode cX9_again 25 = .ok (.iload_n 2, 1) := by decide +kernel
theorem dX9_again_26 : decode cX9_again 26 = .ok (.iadd, 1) := by decide +kernel
theorem dX9_again_27 : decode cX9_again 27 = .ok (.iaload, 1) := by decide +kernel
theorem dX9_again_28 : decode cX9_again 28 = .ok (.iastore, 1) := by decide +kernel
theorem dX9_again_29 : decode cX9_again 29 = .ok (.aload_n 0, 1) := by decide +kernel
theorem dX9_again_30 : decode cX9_again 30 = .ok (.getfield 16, 3) := by decide +kernel
theorem dX9_again_33 : decode cX9_again 33 = .ok (.iload_n 2, 1) := by decide +kernel
theorem dX9_again_34 : decode cX9_again 34 = .ok (.aload_n 1, 1) := by decide +kernel
theorem dX9_again_35 : decode cX9_again 35 = .ok (.bipush 14, 2) := by decide +kernel
theorem dX9_again_37 : decode cX9_again 37 = .ok (.iload_n 2, 1) := by decide +kernel
theorem dX9_again_38 : decode cX9_again 38 = .ok (.iadd, 1) := by decide +kernel
theorem dX9_again_39 : decode cX9_again 39 = .ok (.iaload, 1) := by decide +kernel
theorem dX9_again_40 : decode cX9_again 40 = .ok (.iastore, 1) := by decide +kernel
theorem dX9_again_41 : decode cX9_again 41 = .ok (.aload_n 0, 1) := by decide +kernel
theorem dX9_again_42 : decode cX9_again 42 = .ok (.getfield 19, 3) := by decide +kernel
theorem dX9_again_45 : decode cX9_again 45 = .ok (.iload_n 2, 1) := by decide +kernel
theorem dX9_again_46 : decode cX9_again 46 = .ok (.aload_n 1, 1) := by decide +kernel
theorem dX9_again_47 : decode cX9_again 47 = .ok (.bipush 21, 2) := by decide +kernel
theorem dX9_again_49 : decode cX9_again 49 = .ok (.iload_n 2, 1) := by decide +kernel
theorem dX9_again_50 : decode cX9_again 50 = .ok (.iadd, 1) := by decide +kernel
theorem dX9_again_51 : decode cX9_again 51 = .ok (.iaload, 1) := by decide +kernel
theorem dX9_again_52 : decode cX9_again 52 = .ok (.iastore, 1) := by decide +kernel
theorem dX9_again_53 : decode cX9_again 53 = .ok (.aload_n 0, 1) := by decide +kernel
theorem dX9_again_54 : decode cX9_again 54 = .ok (.getfield 22, 3) := by decide +kernel
theorem dX9_again_57 : decode cX9_again 57 = .ok (.iload_n 2, 1) := by decide +kernel
theorem dX9_again_58 : decode cX9_again 58 = .ok (.aload_n 1, 1) := by decide +kernel
theorem dX9_again_59 : decode cX9_again 59 = .ok (.bipush 28, 2) := by decide +kernel
theorem dX9_again_61 : decode cX9_again 61 = .ok (.iload_n 2, 1) := by decide +kernel
theorem dX9_again_62 : decode cX9_again 62 = .ok (.iadd, 1) := by decide +kernel
theorem dX9_again_63 : decode cX9_again 63 = .ok (.iaload, 1) := by decide +kernel
theorem dX9_again_64 : decode cX9_again 64 = .ok (.iastore, 1) := by decide +kernel
theorem dX9_again_65 : decode cX9_again 65 = .ok (.aload_n 0, 1) := by decide +kernel
theorem dX9_again_66 : decode cX9_again 66 = .ok (.getfield 25, 3) := by decide +kernel
theorem dX9_again_69 : decode cX9_again 69 = .ok (.iload_n 2, 1) := by decide +kernel
theorem dX9_again_70 : decode cX9_again 70 = .ok (.aload_n 1, 1) := by decide +kernel
theorem dX9_again_71 : decode cX9_again 71 = .ok (.bipush 35, 2) := by decide +kernel
theorem dX9_again_73 : decode cX9_again 73 = .ok (.iload_n 2, 1) := by decide +kernel
theorem dX9_again_74 : decode cX9_again 74 = .ok (.iadd, 1) := by decide +kernel
theorem dX9_again_75 : decode cX9_again 75 = .ok (.iaload, 1) := by decide +kernel
theorem dX9_again_76 : decode cX9_again 76 = .ok (.iastore, 1) := by decide +kernel
theorem dX9_again_77 : decode cX9_again 77 = .ok (.iinc 2 1, 3) := by decide +kernel
theorem dX9_again_80 : decode cX9_again 80 = .ok (.goto (-78), 3) := by decide +kernel
theorem dX9_again_83 : decode cX9_again 83 = .ok (.iconst 0, 1) := by decide +kernel
theorem dX9_again_84 : decode cX9_again 84 = .ok (.istore_n 2, 1) := by decide +kernel
theorem dX9_again_85 : decode cX9_again 85 = .ok (.iload_n 2, 1) := by decide +kernel
theorem dX9_again_86 : decode cX9_again 86 = .ok (.bipush 49, 2) := by decide +kernel
theorem dX9_again_88 : decode cX9_again 88 = .ok (.if_icmp .ge 53, 3) := by decide +kernel
theorem dX9_again_91 : decode cX9_again 91 = .ok (.aload_n 0, 1) := by decide +kernel
theorem dX9_again_92 : decode cX9_again 92 = .ok (.getfield 28, 3) := by decide +kernel
theorem dX9_again_95 : decode cX9_again 95 = .ok (.iload_n 2, 1) := by decide +kernel
theorem dX9_again_96 : decode cX9_again 96 = .ok (.baload, 1) := by decide +kernel
theorem dX9_again_97 : decode cX9_again 97 = .ok (.aload_n 1, 1) := by decide +kernel
theorem dX9_again_98 : decode cX9_again 98 = .ok (.bipush 42, 2) := by decide +kernel
theorem dX9_again_100 : decode cX9_again 100 = .ok (.iload_n 2, 1) := by decide +kernel
theorem dX9_again_101 : decode cX9_again 101 = .ok (.iadd, 1) := by decide +kernel
theorem dX9_again_102 : decode cX9_again 102 = .ok (.iaload, 1) := by decide +kernel
theorem dX9_again_103 : decode cX9_again 103 = .ok (.iconst 1, 1) := by decide +kernel
theorem dX9_again_104 : decode cX9_again 104 = .ok (.if_icmp .ne 7, 3) := by decide +kernel
theorem dX9_again_107 : decode cX9_again 107 = .ok (.iconst 1, 1) := by decide +kernel
theorem dX9_again_108 : decode cX9_again 108 = .ok (.goto 4, 3) := by decide +kernel
theorem dX9_again_111 : decode cX9_again 111 = .ok (.iconst 0, 1) := by decide +kernel
theorem dX9_again_112 : decode cX9_again 112 = .ok (.if_icmp .eq 23, 3) := by decide +kernel
theorem dX9_again_115 : decode cX9_again 115 = .ok (.aload_n 0, 1) := by decide +kernel
theorem dX9_again_116 : decode cX9_again 116 = .ok (.iload_n 2, 1) := by decide +kernel
theorem dX9_again_117 : decode cX9_again 117 = .ok (.aload_n 1, 1) := by decide +kernel
theorem dX9_again_118 : decode cX9_again 118 = .ok (.bipush 42, 2) := by decide +kernel
theorem dX9_again_120 : decode cX9_again 120 = .ok (.iload_n 2, 1) := by decide +kernel
theorem dX9_again_121 : decode cX9_again 121 = .ok (.iadd, 1) := by decide +kernel
theorem dX9_again_122 : decode cX9_again 122 = .ok (.iaload, 1) := by decide +kernel
theorem dX9_again_123 : decode cX9_again 123 = .ok (.iconst 1, 1) := by decide +kernel
theorem dX9_again_124 : decode cX9_again 124 = .ok (.if_icmp .ne 7, 3) := by decide +kernel
theorem dX9_again_127 : decode cX9_again 127 = .ok (.iconst 1, 1) := by decide +kernel
theorem dX9_again_128 : decode cX9_again 128 = .ok (.goto 4, 3) := by decide +kernel
theorem dX9_again_131 : decode cX9_again 131 = .ok (.iconst 0, 1) := by decide +kernel
theorem dX9_again_132 : decode cX9_again 132 = .ok (.invokevirtual 130, 3) := by decide +kernel
theorem dX9_again_135 : decode cX9_again 135 = .ok (.iinc 2 1, 3) := by decide +kernel
theorem dX9_again_138 : decode cX9_again 138 = .ok (.goto (-53), 3) := by decide +kernel
theorem dX9_again_141 : decode cX9_again 141 = .ok (.iconst 0, 1) := by decide +kernel
theorem dX9_again_142 : decode cX9_again 142 = .ok (.istore_n 2, 1) := by decide +kernel
theorem dX9_again_143 : decode cX9_again 143 = .ok (.iload_n 2, 1) := by decide +kernel
theorem dX9_again_144 : decode cX9_again 144 = .ok (.iconst 4, 1) := by decide +kernel
theorem dX9_again_145 : decode cX9_again 145 = .ok (.if_icmp .ge 21, 3) := by decide +kernel
theorem dX9_again_148 : decode cX9_again 148 = .ok (.aload_n 0, 1) := by decide +kernel
theorem dX9_again_149 : decode cX9_again 149 = .ok (.getfield 32, 3) := by decide +kernel
theorem dX9_again_152 : decode cX9_again 152 = .ok (.iload_n 2, 1) := by decide +kernel
theorem dX9_again_153 : decode cX9_again 153 = .ok (.aload_n 1, 1) := by decide +kernel
theorem dX9_again_154 : decode cX9_again 154 = .ok (.bipush 91, 2) := by decide +kernel
theorem dX9_again_156 : decode cX9_again 156 = .ok (.iload_n 2, 1) := by decide +kernel
theorem dX9_again_157 : decode cX9_again 157 = .ok (.iadd, 1) := by decide +kernel
theorem dX9_again_158 : decode cX9_again 158 = .ok (.iaload, 1) := by decide +kernel
theorem dX9_again_159 : decode cX9_again 159 = .ok (.iastore, 1) := by decide +kernel
theorem dX9_again_160 : decode cX9_again 160 = .ok (.iinc 2 1, 3) := by decide +kernel
theorem dX9_again_163 : decode cX9_again 163 = .ok (.goto (-20), 3) := by decide +kernel
theorem dX9_again_166 : decode cX9_again 166 = .ok (.aload_n 0, 1) := by decide +kernel
theorem dX9_again_167 : decode cX9_again 167 = .ok (.aload_n 1, 1) := by decide +kernel
theorem dX9_again_168 : decode cX9_again 168 = .ok (.bipush 95, 2) := by decide +kernel
theorem dX9_again_170 : decode cX9_again 170 = .ok (.iaload, 1) := by decide +kernel
theorem dX9_again_171 : decode cX9_again 171 = .ok (.putfield 83, 3) := by decide +kernel
theorem dX9_again_174 : decode cX9_again 174 = .ok (.return_, 1) := by decide +kernel
theorem dX9_image_0 : decode cX9_image 0 = .ok (.aload_n 0, 1) := by decide +kernel
theorem dX9_image_1 : decode cX9_image 1 = .ok (.iconst 1, 1) := by decide +kernel
theorem dX9_image_2 : decode cX9_image 2 = .ok (.putfield 303, 3) := by decide +kernel
theorem dX9_image_5 : decode cX9_image 5 = .ok (.aload_n 0, 1) := by decide +kernel
theorem dX9_image_6 : decode cX9_image 6 = .ok (.aload_n 0, 1) := by decide +kernel
theorem dX9_image_7 : decode cX9_image 7 = .ok (.getfield 57, 3) := by decide +kernel
theorem dX9_image_10 : decode cX9_image 10 = .ok (.invokevirtual 187, 3) := by decide +kernel
theorem dX9_image_13 : decode cX9_image 13 = .ok (.aload_n 0, 1) := by decide +kernel
theorem dX9_image_14 : decode cX9_image 14 = .ok (.aload_n 0, 1) := by decide +kernel
theorem dX9_image_15 : decode cX9_image 15 = .ok (.getfield 69, 3) := by decide +kernel
theorem dX9_image_18 : decode cX9_image 18 = .ok (.putfield 306, 3) := by decide +kernel
theorem dX9_image_21 : decode cX9_image 21 = .ok (.aload_n 0, 1) := by decide +kernel
theorem dX9_image_22 : decode cX9_image 22 = .ok (.getfield 83, 3) := by decide +kernel
theorem dX9_image_25 : decode cX9_image 25 = .ok (.ireturn, 1) := by decide +kernel
theorem dX9_restore_0 : decode cX9_restore 0 = .ok (.aload_n 0, 1) := by decide +kernel
theorem dX9_restore_1 : decode cX9_restore 1 = .ok (.getfield 303, 3) := by decide +kernel
theorem dX9_restore_4 : decode cX9_restore 4 = .ok (.ifCond .ne 10, 3) := by decide +kernel
theorem dX9_restore_7 : decode cX9_restore 7 = .ok (.aload_n 0, 1) := by decide +kernel
theorem dX9_restore_8 : decode cX9_restore 8 = .ok (.bipush (-6), 2) := by decide +kernel
theorem dX9_restore_10 : decode cX9_restore 10 = .ok (.invokevirtual 79, 3) := by decide +kernel
theorem dX9_restore_13 : decode cX9_restore 13 = .ok (.ireturn, 1) := by decide +kernel
theorem dX9_restore_14 : decode cX9_restore 14 = .ok (.aload_n 0, 1) := by decide +kernel
theorem dX9_restore_15 : decode cX9_restore 15 = .ok (.aload_n 0, 1) := by decide +kernel
theorem dX9_restore_16 : decode cX9_restore 16 = .ok (.getfield 57, 3) := by decide +kernel
theorem dX9_restore_19 : decode cX9_restore 19 = .ok (.invokevirtual 195, 3) := by decide +kernel
theorem dX9_restore_22 : decode cX9_restore 22 = .ok (.aload_n 0, 1) := by decide +kernel
theorem dX9_restore_23 : decode cX9_restore 23 = .ok (.aload_n 0, 1) := by decide +kernel
theorem dX9_restore_24 : decode cX9_restore 24 = .ok (.getfield 306, 3) := by decide +kernel
theorem dX9_restore_27 : decode cX9_restore 27 = .ok (.putfield 69, 3) := by decide +kernel
theorem dX9_restore_30 : decode cX9_restore 30 = .ok (.iconst 0, 1) := by decide +kernel
theorem dX9_restore_31 : decode cX9_restore 31 = .ok (.istore_n 1, 1) := by decide +kernel
theorem dX9_restore_32 : decode cX9_restore 32 = .ok (.iload_n 1, 1) := by decide +kernel
theorem dX9_restore_33 : decode cX9_restore 33 = .ok (.bipush 8, 2) := by decide +kernel
theorem dX9_restore_35 : decode cX9_restore 35 = .ok (.if_icmp .ge 37, 3) := by decide +kernel
theorem dX9_restore_38 : decode cX9_restore 38 = .ok (.aload_n 0, 1) := by decide +kernel
theorem dX9_restore_39 : decode cX9_restore 39 = .ok (.iload_n 1, 1) := by decide +kernel
theorem dX9_restore_40 : decode cX9_restore 40 = .ok (.invokevirtual 90, 3) := by decide +kernel
theorem dX9_restore_43 : decode cX9_restore 43 = .ok (.ifCond .ne 23, 3) := by decide +kernel
theorem dX9_restore_46 : decode cX9_restore 46 = .ok (.aload_n 0, 1) := by decide +kernel
theorem dX9_restore_47 : decode cX9_restore 47 = .ok (.getfield 35, 3) := by decide +kernel
theorem dX9_restore_50 : decode cX9_restore 50 = .ok (.iload_n 1, 1) := by decide +kernel
theorem dX9_restore_51 : decode cX9_restore 51 = .ok (.iaload, 1) := by decide +kernel
theorem dX9_restore_52 : decode cX9_restore 52 = .ok (.aload_n 0, 1) := by decide +kernel
theorem dX9_restore_53 : decode cX9_restore 53 = .ok (.getfield 83, 3) := by decide +kernel
theorem dX9_restore_56 : decode cX9_restore 56 = .ok (.if_icmp .lt 10, 3) := by decide +kernel
theorem dX9_restore_59 : decode cX9_restore 59 = .ok (.aload_n 0, 1) := by decide +kernel
theorem dX9_restore_60 : decode cX9_restore 60 = .ok (.getfield 35, 3) := by decide +kernel
theorem dX9_restore_63 : decode cX9_restore 63 = .ok (.iload_n 1, 1) := by decide +kernel
theorem dX9_restore_64 : decode cX9_restore 64 = .ok (.iconst (-1), 1) := by decide +kernel
theorem dX9_restore_65 : decode cX9_restore 65 = .ok (.iastore, 1) := by decide +kernel
theorem dX9_restore_66 : decode cX9_restore 66 = .ok (.iinc 1 1, 3) := by decide +kernel
theorem dX9_restore_69 : decode cX9_restore 69 = .ok (.goto (-37), 3) := by decide +kernel
theorem dX9_restore_72 : decode cX9_restore 72 = .ok (.aload_n 0, 1) := by decide +kernel
theorem dX9_restore_73 : decode cX9_restore 73 = .ok (.getfield 83, 3) := by decide +kernel
theorem dX9_restore_76 : decode cX9_restore 76 = .ok (.ireturn, 1) := by decide +kernel
theorem dX9_status_0 : decode cX9_status 0 = .ok (.iconst 0, 1) := by decide +kernel
theorem dX9_status_1 : decode cX9_status 1 = .ok (.istore_n 2, 1) := by decide +kernel
theorem dX9_status_2 : decode cX9_status 2 = .ok (.iload_n 1, 1) := by decide +kernel
theorem dX9_status_3 : decode cX9_status 3 = .ok (.tableswitch 128 0 8 #[49, 54, 82, 82, 82, 82, 91, 118, 123], 49) := by decide +kernel
theorem dX9_status_52 : decode cX9_status 52 = .ok (.aload_n 0, 1) := by decide +kernel
theorem dX9_status_53 : decode cX9_status 53 = .ok (.getfield 83, 3) := by decide +kernel
theorem dX9_status_56 : decode cX9_status 56 = .ok (.ireturn, 1) := by decide +kernel
theorem dX9_status_57 : decode cX9_status 57 = .ok (.iconst 0, 1) := by decide +kernel
theorem dX9_status_58 : decode cX9_status 58 = .ok (.istore_n 3, 1) := by decide +kernel
theorem dX9_status_59 : decode cX9_status 59 = .ok (.iload_n 3, 1) := by decide +kernel
theorem dX9_status_60 : decode cX9_status 60 = .ok (.bipush 49, 2) := by decide +kernel
theorem dX9_status_62 : decode cX9_status 62 = .ok (.if_icmp .ge 21, 3) := by decide +kernel
theorem dX9_status_65 : decode cX9_status 65 = .ok (.aload_n 0, 1) := by decide +kernel
theorem dX9_status_66 : decode cX9_status 66 = .ok (.getfield 28, 3) := by decide +kernel
theorem dX9_status_69 : decode cX9_status 69 = .ok (.iload_n 3, 1) := by decide +kernel
theorem dX9_status_70 : decode cX9_status 70 = .ok (.baload, 1) := by decide +kernel
theorem dX9_status_71 : decode cX9_status 71 = .ok (.ifCond .eq 6, 3) := by decide +kernel
theorem dX9_status_74 : decode cX9_status 74 = .ok (.iinc 2 1, 3) := by decide +kernel
theorem dX9_status_77 : decode cX9_status 77 = .ok (.iinc 3 1, 3) := by decide +kernel
theorem dX9_status_80 : decode cX9_status 80 = .ok (.goto (-21), 3) := by decide +kernel
theorem dX9_status_83 : decode cX9_status 83 = .ok (.iload_n 2, 1) := by decide +kernel
theorem dX9_status_84 : decode cX9_status 84 = .ok (.ireturn, 1) := by decide +kernel
theorem dX9_status_85 : decode cX9_status 85 = .ok (.aload_n 0, 1) := by decide +kernel
theorem dX9_status_86 : decode cX9_status 86 = .ok (.getfield 32, 3) := by decide +kernel
theorem dX9_status_89 : decode cX9_status 89 = .ok (.iload_n 1, 1) := by decide +kernel
theorem dX9_status_90 : decode cX9_status 90 = .ok (.iconst 2, 1) := by decide +kernel
theorem dX9_status_91 : decode cX9_status 91 = .ok (.isub, 1) := by decide +kernel
theorem dX9_status_92 : decode cX9_status 92 = .ok (.iaload, 1) := by decide +kernel
theorem dX9_status_93 : decode cX9_status 93 = .ok (.ireturn, 1) := by decide +kernel
theorem dX9_status_94 : decode cX9_status 94 = .ok (.iconst 0, 1) := by decide +kernel
theorem dX9_status_95 : decode cX9_status 95 = .ok (.istore_n 3, 1) := by decide +kernel
theorem dX9_status_96 : decode cX9_status 96 = .ok (.iload_n 3, 1) := by decide +kernel
theorem dX9_status_97 : decode cX9_status 97 = .ok (.aload_n 0, 1) := by decide +kernel
theorem dX9_status_98 : decode cX9_status 98 = .ok (.getfield 83, 3) := by decide +kernel
theorem dX9_status_101 : decode cX9_status 101 = .ok (.if_icmp .ge 18, 3) := by decide +kernel
theorem dX9_status_104 : decode cX9_status 104 = .ok (.iload_n 2, 1) := by decide +kernel
theorem dX9_status_105 : decode cX9_status 105 = .ok (.aload_n 0, 1) := by decide +kernel
theorem dX9_status_106 : decode cX9_status 106 = .ok (.getfield 25, 3) := by decide +kernel
theorem dX9_status_109 : decode cX9_status 109 = .ok (.iload_n 3, 1) := by decide +kernel
theorem dX9_status_110 : decode cX9_status 110 = .ok (.iaload, 1) := by decide +kernel
theorem dX9_status_111 : decode cX9_status 111 = .ok (.iadd, 1) := by decide +kernel
theorem dX9_status_112 : decode cX9_status 112 = .ok (.istore_n 2, 1) := by decide +kernel
theorem dX9_status_113 : decode cX9_status 113 = .ok (.iinc 3 1, 3) := by decide +kernel
theorem dX9_status_116 : decode cX9_status 116 = .ok (.goto (-20), 3) := by decide +kernel
theorem dX9_status_119 : decode cX9_status 119 = .ok (.iload_n 2, 1) := by decide +kernel
theorem dX9_status_120 : decode cX9_status 120 = .ok (.ireturn, 1) := by decide +kernel
theorem dX9_status_121 : decode cX9_status 121 = .ok (.aload_n 0, 1) := by decide +kernel
theorem dX9_status_122 : decode cX9_status 122 = .ok (.getfield 69, 3) := by decide +kernel
theorem dX9_status_125 : decode cX9_status 125 = .ok (.ireturn, 1) := by decide +kernel
theorem dX9_status_126 : decode cX9_status 126 = .ok (.aload_n 0, 1) := by decide +kernel
theorem dX9_status_127 : decode cX9_status 127 = .ok (.getfield 287, 3) := by decide +kernel
theorem dX9_status_130 : decode cX9_status 130 = .ok (.ireturn, 1) := by decide +kernel
theorem dX9_status_131 : decode cX9_status 131 = .ok (.iload_n 1, 1) := by decide +kernel
theorem dX9_status_132 : decode cX9_status 132 = .ok (.bipush 11, 2) := by decide +kernel
theorem dX9_status_134 : decode cX9_status 134 = .ok (.bipush 17, 2) := by decide +kernel
theorem dX9_status_136 : decode cX9_status 136 = .ok (.invokestatic 86, 3) := by decide +kernel
theorem dX9_status_139 : decode cX9_status 139 = .ok (.ifCond .eq 15, 3) := by decide +kernel
theorem dX9_status_142 : decode cX9_status 142 = .ok (.aload_n 0, 1) := by decide +kernel
theorem dX9_status_143 : decode cX9_status 143 = .ok (.getfield 54, 3) := by decide +kernel
theorem dX9_status_146 : decode cX9_status 146 = .ok (.iload_n 1, 1) := by decide +kernel
theorem dX9_status_147 : decode cX9_status 147 = .ok (.bipush 10, 2) := by decide +kernel
theorem dX9_status_149 : decode cX9_status 149 = .ok (.isub, 1) := by decide +kernel
theorem dX9_status_150 : decode cX9_status 150 = .ok (.iaload, 1) := by decide +kernel
theorem dX9_status_151 : decode cX9_status 151 = .ok (.goto 4, 3) := by decide +kernel
theorem dX9_status_154 : decode cX9_status 154 = .ok (.iconst (-1), 1) := by decide +kernel
theorem dX9_status_155 : decode cX9_status 155 = .ok (.ireturn, 1) := by decide +kernel
theorem dJ6_bitCount_0f7a4_0 : decode cJ6_bitCount_0f7a4 0 = .ok (.iload_n 0, 1) := by decide +kernel
theorem dJ6_bitCount_0f7a4_1 : decode cJ6_bitCount_0f7a4 1 = .ok (.iload_n 0, 1) := by decide +kernel
theorem dJ6_bitCount_0f7a4_2 : decode cJ6_bitCount_0f7a4 2 = .ok (.iconst 1, 1) := by decide +kernel
theorem dJ6_bitCount_0f7a4_3 : decode cJ6_bitCount_0f7a4 3 = .ok (.iushr, 1) := by decide +kernel
theorem dJ6_bitCount_0f7a4_4 : decode cJ6_bitCount_0f7a4 4 = .ok (.ldc_w 265, 3) := by decide +kernel
theorem dJ6_bitCount_0f7a4_7 : decode cJ6_bitCount_0f7a4 7 = .ok (.iand, 1) := by decide +kernel
theorem dJ6_bitCount_0f7a4_8 : decode cJ6_bitCount_0f7a4 8 = .ok (.isub, 1) := by decide +kernel
theorem dJ6_bitCount_0f7a4_9 : decode cJ6_bitCount_0f7a4 9 = .ok (.istore_n 0, 1) := by decide +kernel
theorem dJ6_bitCount_0f7a4_10 : decode cJ6_bitCount_0f7a4 10 = .ok (.iload_n 0, 1) := by decide +kernel
theorem dJ6_bitCount_0f7a4_11 : decode cJ6_bitCount_0f7a4 11 = .ok (.ldc_w 266, 3) := by decide +kernel
theorem dJ6_bitCount_0f7a4_14 : decode cJ6_bitCount_0f7a4 14 = .ok (.iand, 1) := by decide +kernel
theorem dJ6_bitCount_0f7a4_15 : decode cJ6_bitCount_0f7a4 15 = .ok (.iload_n 0, 1) := by decide +kernel
theorem dJ6_bitCount_0f7a4_16 : decode cJ6_bitCount_0f7a4 16 = .ok (.iconst 2, 1) := by decide +kernel
theorem dJ6_bitCount_0f7a4_17 : decode cJ6_bitCount_0f7a4 17 = .ok (.iushr, 1) := by decide +kernel
theorem dJ6_bitCount_0f7a4_18 : decode cJ6_bitCount_0f7a4 18 = .ok (.ldc_w 266, 3) := by decide +kernel
theorem dJ6_bitCount_0f7a4_21 : decode cJ6_bitCount_0f7a4 21 = .ok (.iand, 1) := by decide +kernel
theorem dJ6_bitCount_0f7a4_22 : decode cJ6_bitCount_0f7a4 22 = .ok (.iadd, 1) := by decide +kernel
theorem dJ6_bitCount_0f7a4_23 : decode cJ6_bitCount_0f7a4 23 = .ok (.istore_n 0, 1) := by decide +kernel
theorem dJ6_bitCount_0f7a4_24 : decode cJ6_bitCount_0f7a4 24 = .ok (.iload_n 0, 1) := by decide +kernel
theorem dJ6_bitCount_0f7a4_25 : decode cJ6_bitCount_0f7a4 25 = .ok (.iload_n 0, 1) := by decide +kernel
theorem dJ6_bitCount_0f7a4_26 : decode cJ6_bitCount_0f7a4 26 = .ok (.iconst 4, 1) := by decide +kernel
theorem dJ6_bitCount_0f7a4_27 : decode cJ6_bitCount_0f7a4 27 = .ok (.iushr, 1) := by decide +kernel
theorem dJ6_bitCount_0f7a4_28 : decode cJ6_bitCount_0f7a4 28 = .ok (.iadd, 1) := by decide +kernel
theorem dJ6_bitCount_0f7a4_29 : decode cJ6_bitCount_0f7a4 29 = .ok (.ldc_w 267, 3) := by decide +kernel
theorem dJ6_bitCount_0f7a4_32 : decode cJ6_bitCount_0f7a4 32 = .ok (.iand, 1) := by decide +kernel
theorem dJ6_bitCount_0f7a4_33 : decode cJ6_bitCount_0f7a4 33 = .ok (.istore_n 0, 1) := by decide +kernel
theorem dJ6_bitCount_0f7a4_34 : decode cJ6_bitCount_0f7a4 34 = .ok (.iload_n 0, 1) := by decide +kernel
theorem dJ6_bitCount_0f7a4_35 : decode cJ6_bitCount_0f7a4 35 = .ok (.iload_n 0, 1) := by decide +kernel
theorem dJ6_bitCount_0f7a4_36 : decode cJ6_bitCount_0f7a4 36 = .ok (.bipush 8, 2) := by decide +kernel
theorem dJ6_bitCount_0f7a4_38 : decode cJ6_bitCount_0f7a4 38 = .ok (.iushr, 1) := by decide +kernel
theorem dJ6_bitCount_0f7a4_39 : decode cJ6_bitCount_0f7a4 39 = .ok (.iadd, 1) := by decide +kernel
theorem dJ6_bitCount_0f7a4_40 : decode cJ6_bitCount_0f7a4 40 = .ok (.istore_n 0, 1) := by decide +kernel
theorem dJ6_bitCount_0f7a4_41 : decode cJ6_bitCount_0f7a4 41 = .ok (.iload_n 0, 1) := by decide +kernel
theorem dJ6_bitCount_0f7a4_42 : decode cJ6_bitCount_0f7a4 42 = .ok (.iload_n 0, 1) := by decide +kernel
theorem dJ6_bitCount_0f7a4_43 : decode cJ6_bitCount_0f7a4 43 = .ok (.bipush 16, 2) := by decide +kernel
theorem dJ6_bitCount_0f7a4_45 : decode cJ6_bitCount_0f7a4 45 = .ok (.iushr, 1) := by decide +kernel
theorem dJ6_bitCount_0f7a4_46 : decode cJ6_bitCount_0f7a4 46 = .ok (.iadd, 1) := by decide +kernel
theorem dJ6_bitCount_0f7a4_47 : decode cJ6_bitCount_0f7a4 47 = .ok (.istore_n 0, 1) := by decide +kernel
theorem dJ6_bitCount_0f7a4_48 : decode cJ6_bitCount_0f7a4 48 = .ok (.iload_n 0, 1) := by decide +kernel
theorem dJ6_bitCount_0f7a4_49 : decode cJ6_bitCount_0f7a4 49 = .ok (.bipush 63, 2) := by decide +kernel
theorem dJ6_bitCount_0f7a4_51 : decode cJ6_bitCount_0f7a4 51 = .ok (.iand, 1) := by decide +kernel
theorem dJ6_bitCount_0f7a4_52 : decode cJ6_bitCount_0f7a4 52 = .ok (.ireturn, 1) := by decide +kernel
theorem dJ13_bitCount_95d88_0 : decode cJ13_bitCount_95d88 0 = .ok (.lload_n 0, 1) := by decide +kernel
theorem dJ13_bitCount_95d88_1 : decode cJ13_bitCount_95d88 1 = .ok (.lload_n 0, 1) := by decide +kernel
theorem dJ13_bitCount_95d88_2 : decode cJ13_bitCount_95d88 2 = .ok (.iconst 1, 1) := by decide +kernel
theorem dJ13_bitCount_95d88_3 : decode cJ13_bitCount_95d88 3 = .ok (.lushr, 1) := by decide +kernel
theorem dJ13_bitCount_95d88_4 : decode cJ13_bitCount_95d88 4 = .ok (.ldc2_w 314, 3) := by decide +kernel
theorem dJ13_bitCount_95d88_7 : decode cJ13_bitCount_95d88 7 = .ok (.land, 1) := by decide +kernel
theorem dJ13_bitCount_95d88_8 : decode cJ13_bitCount_95d88 8 = .ok (.lsub, 1) := by decide +kernel
theorem dJ13_bitCount_95d88_9 : decode cJ13_bitCount_95d88 9 = .ok (.lstore_n 0, 1) := by decide +kernel
theorem dJ13_bitCount_95d88_10 : decode cJ13_bitCount_95d88 10 = .ok (.lload_n 0, 1) := by decide +kernel
theorem dJ13_bitCount_95d88_11 : decode cJ13_bitCount_95d88 11 = .ok (.ldc2_w 316, 3) := by decide +kernel
theorem dJ13_bitCount_95d88_14 : decode cJ13_bitCount_95d88 14 = .ok (.land, 1) := by decide +kernel
theorem dJ13_bitCount_95d88_15 : decode cJ13_bitCount_95d88 15 = .ok (.lload_n 0, 1) := by decide +kernel
theorem dJ13_bitCount_95d88_16 : decode cJ13_bitCount_95d88 16 = .ok (.iconst 2, 1) := by decide +kernel
theorem dJ13_bitCount_95d88_17 : decode cJ13_bitCount_95d88 17 = .ok (.lushr, 1) := by decide +kernel
theorem dJ13_bitCount_95d88_18 : decode cJ13_bitCount_95d88 18 = .ok (.ldc2_w 316, 3) := by decide +kernel
theorem dJ13_bitCount_95d88_21 : decode cJ13_bitCount_95d88 21 = .ok (.land, 1) := by decide +kernel
theorem dJ13_bitCount_95d88_22 : decode cJ13_bitCount_95d88 22 = .ok (.ladd, 1) := by decide +kernel
theorem dJ13_bitCount_95d88_23 : decode cJ13_bitCount_95d88 23 = .ok (.lstore_n 0, 1) := by decide +kernel
theorem dJ13_bitCount_95d88_24 : decode cJ13_bitCount_95d88 24 = .ok (.lload_n 0, 1) := by decide +kernel
theorem dJ13_bitCount_95d88_25 : decode cJ13_bitCount_95d88 25 = .ok (.lload_n 0, 1) := by decide +kernel
theorem dJ13_bitCount_95d88_26 : decode cJ13_bitCount_95d88 26 = .ok (.iconst 4, 1) := by decide +kernel
theorem dJ13_bitCount_95d88_27 : decode cJ13_bitCount_95d88 27 = .ok (.lushr, 1) := by decide +kernel
theorem dJ13_bitCount_95d88_28 : decode cJ13_bitCount_95d88 28 = .ok (.ladd, 1) := by decide +kernel
theorem dJ13_bitCount_95d88_29 : decode cJ13_bitCount_95d88 29 = .ok (.ldc2_w 318, 3) := by decide +kernel
theorem dJ13_bitCount_95d88_32 : decode cJ13_bitCount_95d88 32 = .ok (.land, 1) := by decide +kernel
theorem dJ13_bitCount_95d88_33 : decode cJ13_bitCount_95d88 33 = .ok (.lstore_n 0, 1) := by decide +kernel
theorem dJ13_bitCount_95d88_34 : decode cJ13_bitCount_95d88 34 = .ok (.lload_n 0, 1) := by decide +kernel
theorem dJ13_bitCount_95d88_35 : decode cJ13_bitCount_95d88 35 = .ok (.lload_n 0, 1) := by decide +kernel
theorem dJ13_bitCount_95d88_36 : decode cJ13_bitCount_95d88 36 = .ok (.bipush 8, 2) := by decide +kernel
theorem dJ13_bitCount_95d88_38 : decode cJ13_bitCount_95d88 38 = .ok (.lushr, 1) := by decide +kernel
theorem dJ13_bitCount_95d88_39 : decode cJ13_bitCount_95d88 39 = .ok (.ladd, 1) := by decide +kernel
theorem dJ13_bitCount_95d88_40 : decode cJ13_bitCount_95d88 40 = .ok (.lstore_n 0, 1) := by decide +kernel
theorem dJ13_bitCount_95d88_41 : decode cJ13_bitCount_95d88 41 = .ok (.lload_n 0, 1) := by decide +kernel
theorem dJ13_bitCount_95d88_42 : decode cJ13_bitCount_95d88 42 = .ok (.lload_n 0, 1) := by decide +kernel
theorem dJ13_bitCount_95d88_43 : decode cJ13_bitCount_95d88 43 = .ok (.bipush 16, 2) := by decide +kernel
theorem dJ13_bitCount_95d88_45 : decode cJ13_bitCount_95d88 45 = .ok (.lushr, 1) := by decide +kernel
theorem dJ13_bitCount_95d88_46 : decode cJ13_bitCount_95d88 46 = .ok (.ladd, 1) := by decide +kernel
theorem dJ13_bitCount_95d88_47 : decode cJ13_bitCount_95d88 47 = .ok (.lstore_n 0, 1) := by decide +kernel
theorem dJ13_bitCount_95d88_48 : decode cJ13_bitCount_95d88 48 = .ok (.lload_n 0, 1) := by decide +kernel
theorem dJ13_bitCount_95d88_49 : decode cJ13_bitCount_95d88 49 = .ok (.lload_n 0, 1) := by decide +kernel
theorem dJ13_bitCount_95d88_50 : decode cJ13_bitCount_95d88 50 = .ok (.bipush 32, 2) := by decide +kernel
theorem dJ13_bitCount_95d88_52 : decode cJ13_bitCount_95d88 52 = .ok (.lushr, 1) := by decide +kernel
theorem dJ13_bitCount_95d88_53 : decode cJ13_bitCount_95d88 53 = .ok (.ladd, 1) := by decide +kernel
theorem dJ13_bitCount_95d88_54 : decode cJ13_bitCount_95d88 54 = .ok (.lstore_n 0, 1) := by decide +kernel
theorem dJ13_bitCount_95d88_55 : decode cJ13_bitCount_95d88 55 = .ok (.lload_n 0, 1) := by decide +kernel
theorem dJ13_bitCount_95d88_56 : decode cJ13_bitCount_95d88 56 = .ok (.l2i, 1) := by decide +kernel
theorem dJ13_bitCount_95d88_57 : decode cJ13_bitCount_95d88 57 = .ok (.bipush 127, 2) := by decide +kernel
theorem dJ13_bitCount_95d88_59 : decode cJ13_bitCount_95d88 59 = .ok (.iand, 1) := by decide +kernel
theorem dJ13_bitCount_95d88_60 : decode cJ13_bitCount_95d88 60 = .ok (.ireturn, 1) := by decide +kernel
theorem dJ9_max_7cf53_0 : decode cJ9_max_7cf53 0 = .ok (.iload_n 0, 1) := by decide +kernel
theorem dJ9_max_7cf53_1 : decode cJ9_max_7cf53 1 = .ok (.iload_n 1, 1) := by decide +kernel
theorem dJ9_max_7cf53_2 : decode cJ9_max_7cf53 2 = .ok (.if_icmp .lt 7, 3) := by decide +kernel
theorem dJ9_max_7cf53_5 : decode cJ9_max_7cf53 5 = .ok (.iload_n 0, 1) := by decide +kernel
theorem dJ9_max_7cf53_6 : decode cJ9_max_7cf53 6 = .ok (.goto 4, 3) := by decide +kernel
theorem dJ9_max_7cf53_9 : decode cJ9_max_7cf53 9 = .ok (.iload_n 1, 1) := by decide +kernel
theorem dJ9_max_7cf53_10 : decode cJ9_max_7cf53 10 = .ok (.ireturn, 1) := by decide +kernel
theorem dJ0_length_8abf5_0 : decode cJ0_length_8abf5 0 = .ok (.aload_n 0, 1) := by decide +kernel
theorem dJ0_length_8abf5_1 : decode cJ0_length_8abf5 1 = .ok (.getfield 9, 3) := by decide +kernel
theorem dJ0_length_8abf5_4 : decode cJ0_length_8abf5 4 = .ok (.arraylength, 1) := by decide +kernel
theorem dJ0_length_8abf5_5 : decode cJ0_length_8abf5 5 = .ok (.aload_n 0, 1) := by decide +kernel
theorem dJ0_length_8abf5_6 : decode cJ0_length_8abf5 6 = .ok (.invokevirtual 335, 3) := by decide +kernel
theorem dJ0_length_8abf5_9 : decode cJ0_length_8abf5 9 = .ok (.ishr, 1) := by decide +kernel
theorem dJ0_length_8abf5_10 : decode cJ0_length_8abf5 10 = .ok (.ireturn, 1) := by decide +kernel
theorem dJ0_charAt_5068e_0 : decode cJ0_charAt_5068e 0 = .ok (.aload_n 0, 1) := by decide +kernel
theorem dJ0_charAt_5068e_1 : decode cJ0_charAt_5068e 1 = .ok (.invokevirtual 492, 3) := by decide +kernel
theorem dJ0_charAt_5068e_4 : decode cJ0_charAt_5068e 4 = .ok (.ifCond .eq 12, 3) := by decide +kernel
theorem dJ0_charAt_5068e_7 : decode cJ0_charAt_5068e 7 = .ok (.aload_n 0, 1) := by decide +kernel
theorem dJ0_charAt_5068e_8 : decode cJ0_charAt_5068e 8 = .ok (.getfield 9, 3) := by decide +kernel
theorem dJ0_charAt_5068e_11 : decode cJ0_charAt_5068e 11 = .ok (.iload_n 1, 1) := by decide +kernel
theorem dJ0_charAt_5068e_12 : decode cJ0_charAt_5068e 12 = .ok (.invokestatic 495, 3) := by decide +kernel
theorem dJ0_charAt_5068e_15 : decode cJ0_charAt_5068e 15 = .ok (.ireturn, 1) := by decide +kernel
theorem dJ0_charAt_5068e_16 : decode cJ0_charAt_5068e 16 = .ok (.aload_n 0, 1) := by decide +kernel
theorem dJ0_charAt_5068e_17 : decode cJ0_charAt_5068e 17 = .ok (.getfield 9, 3) := by decide +kernel
theorem dJ0_charAt_5068e_20 : decode cJ0_charAt_5068e 20 = .ok (.iload_n 1, 1) := by decide +kernel
theorem dJ0_charAt_5068e_21 : decode cJ0_charAt_5068e 21 = .ok (.invokestatic 498, 3) := by decide +kernel
theorem dJ0_charAt_5068e_24 : decode cJ0_charAt_5068e 24 = .ok (.ireturn, 1) := by decide +kernel
theorem dJ0_coder_7d493_0 : decode cJ0_coder_7d493 0 = .ok (.getstatic 38, 3) := by decide +kernel
theorem dJ0_coder_7d493_3 : decode cJ0_coder_7d493 3 = .ok (.ifCond .eq 10, 3) := by decide +kernel
theorem dJ0_coder_7d493_6 : decode cJ0_coder_7d493 6 = .ok (.aload_n 0, 1) := by decide +kernel
theorem dJ0_coder_7d493_7 : decode cJ0_coder_7d493 7 = .ok (.getfield 15, 3) := by decide +kernel
theorem dJ0_coder_7d493_10 : decode cJ0_coder_7d493 10 = .ok (.goto 4, 3) := by decide +kernel
theorem dJ0_coder_7d493_13 : decode cJ0_coder_7d493 13 = .ok (.iconst 1, 1) := by decide +kernel
theorem dJ0_coder_7d493_14 : decode cJ0_coder_7d493 14 = .ok (.ireturn, 1) := by decide +kernel
theorem dJ0_isLatin1_aae02_0 : decode cJ0_isLatin1_aae02 0 = .ok (.getstatic 38, 3) := by decide +kernel
theorem dJ0_isLatin1_aae02_3 : decode cJ0_isLatin1_aae02 3 = .ok (.ifCond .eq 14, 3) := by decide +kernel
theorem dJ0_isLatin1_aae02_6 : decode cJ0_isLatin1_aae02 6 = .ok (.aload_n 0, 1) := by decide +kernel
theorem dJ0_isLatin1_aae02_7 : decode cJ0_isLatin1_aae02 7 = .ok (.getfield 15, 3) := by decide +kernel
theorem dJ0_isLatin1_aae02_10 : decode cJ0_isLatin1_aae02 10 = .ok (.ifCond .ne 7, 3) := by decide +kernel
theorem dJ0_isLatin1_aae02_13 : decode cJ0_isLatin1_aae02 13 = .ok (.iconst 1, 1) := by decide +kernel
theorem dJ0_isLatin1_aae02_14 : decode cJ0_isLatin1_aae02 14 = .ok (.goto 4, 3) := by decide +kernel
theorem dJ0_isLatin1_aae02_17 : decode cJ0_isLatin1_aae02 17 = .ok (.iconst 0, 1) := by decide +kernel
theorem dJ0_isLatin1_aae02_18 : decode cJ0_isLatin1_aae02 18 = .ok (.ireturn, 1) := by decide +kernel
theorem dJ0_checkIndex_df160_0 : decode cJ0_checkIndex_df160 0 = .ok (.iload_n 0, 1) := by decide +kernel
theorem dJ0_checkIndex_df160_1 : decode cJ0_checkIndex_df160 1 = .ok (.iload_n 1, 1) := by decide +kernel
theorem dJ0_checkIndex_df160_2 : decode cJ0_checkIndex_df160 2 = .ok (.getstatic 1053, 3) := by decide +kernel
theorem dJ0_checkIndex_df160_5 : decode cJ0_checkIndex_df160 5 = .ok (.invokestatic 1059, 3) := by decide +kernel
theorem dJ0_checkIndex_df160_8 : decode cJ0_checkIndex_df160 8 = .ok (.pop, 1) := by decide +kernel
theorem dJ0_checkIndex_df160_9 : decode cJ0_checkIndex_df160 9 = .ok (.return_, 1) := by decide +kernel
theorem dJ1_charAt_3b067_0 : decode cJ1_charAt_3b067 0 = .ok (.iload_n 1, 1) := by decide +kernel
theorem dJ1_charAt_3b067_1 : decode cJ1_charAt_3b067 1 = .ok (.aload_n 0, 1) := by decide +kernel
theorem dJ1_charAt_3b067_2 : decode cJ1_charAt_3b067 2 = .ok (.arraylength, 1) := by decide +kernel
theorem dJ1_charAt_3b067_3 : decode cJ1_charAt_3b067 3 = .ok (.invokestatic 9, 3) := by decide +kernel
theorem dJ1_charAt_3b067_6 : decode cJ1_charAt_3b067 6 = .ok (.aload_n 0, 1) := by decide +kernel
theorem dJ1_charAt_3b067_7 : decode cJ1_charAt_3b067 7 = .ok (.iload_n 1, 1) := by decide +kernel
theorem dJ1_charAt_3b067_8 : decode cJ1_charAt_3b067 8 = .ok (.baload, 1) := by decide +kernel
theorem dJ1_charAt_3b067_9 : decode cJ1_charAt_3b067 9 = .ok (.sipush 255, 3) := by decide +kernel
theorem dJ1_charAt_3b067_12 : decode cJ1_charAt_3b067 12 = .ok (.iand, 1) := by decide +kernel
theorem dJ1_charAt_3b067_13 : decode cJ1_charAt_3b067 13 = .ok (.i2c, 1) := by decide +kernel
theorem dJ1_charAt_3b067_14 : decode cJ1_charAt_3b067 14 = .ok (.ireturn, 1) := by decide +kernel
theorem dJ2_getChar_3b067_0 : decode cJ2_getChar_3b067 0 = .ok (.getstatic 44, 3) := by decide +kernel
theorem dJ2_getChar_3b067_3 : decode cJ2_getChar_3b067 3 = .ok (.ifCond .ne 25, 3) := by decide +kernel
theorem dJ2_getChar_3b067_6 : decode cJ2_getChar_3b067 6 = .ok (.iload_n 1, 1) := by decide +kernel
theorem dJ2_getChar_3b067_7 : decode cJ2_getChar_3b067 7 = .ok (.ifCond .lt 11, 3) := by decide +kernel
theorem dJ2_getChar_3b067_10 : decode cJ2_getChar_3b067 10 = .ok (.iload_n 1, 1) := by decide +kernel
theorem dJ2_getChar_3b067_11 : decode cJ2_getChar_3b067 11 = .ok (.aload_n 0, 1) := by decide +kernel
theorem dJ2_getChar_3b067_12 : decode cJ2_getChar_3b067 12 = .ok (.invokestatic 48, 3) := by decide +kernel
theorem dJ2_getChar_3b067_15 : decode cJ2_getChar_3b067 15 = .ok (.if_icmp .lt 13, 3) := by decide +kernel
theorem dJ2_getChar_3b067_18 : decode cJ2_getChar_3b067 18 = .ok (.new 52, 3) := by decide +kernel
theorem dJ2_getChar_3b067_21 : decode cJ2_getChar_3b067 21 = .ok (.dup, 1) := by decide +kernel
theorem dJ2_getChar_3b067_22 : decode cJ2_getChar_3b067 22 = .ok (.ldc 54, 2) := by decide +kernel
theorem dJ2_getChar_3b067_24 : decode cJ2_getChar_3b067 24 = .ok (.invokespecial 56, 3) := by decide +kernel
theorem dJ2_getChar_3b067_27 : decode cJ2_getChar_3b067 27 = .ok (.athrow, 1) := by decide +kernel
theorem dJ2_getChar_3b067_28 : decode cJ2_getChar_3b067 28 = .ok (.iload_n 1, 1) := by decide +kernel
theorem dJ2_getChar_3b067_29 : decode cJ2_getChar_3b067 29 = .ok (.iconst 1, 1) := by decide +kernel
theorem dJ2_getChar_3b067_30 : decode cJ2_getChar_3b067 30 = .ok (.ishl, 1) := by decide +kernel
theorem dJ2_getChar_3b067_31 : decode cJ2_getChar_3b067 31 = .ok (.istore_n 1, 1) := by decide +kernel
theorem dJ2_getChar_3b067_32 : decode cJ2_getChar_3b067 32 = .ok (.aload_n 0, 1) := by decide +kernel
theorem dJ2_getChar_3b067_33 : decode cJ2_getChar_3b067 33 = .ok (.iload_n 1, 1) := by decide +kernel
theorem dJ2_getChar_3b067_34 : decode cJ2_getChar_3b067 34 = .ok (.iinc 1 1, 3) := by decide +kernel
theorem dJ2_getChar_3b067_37 : decode cJ2_getChar_3b067 37 = .ok (.baload, 1) := by decide +kernel
theorem dJ2_getChar_3b067_38 : decode cJ2_getChar_3b067 38 = .ok (.sipush 255, 3) := by decide +kernel
theorem dJ2_getChar_3b067_41 : decode cJ2_getChar_3b067 41 = .ok (.iand, 1) := by decide +kernel
theorem dJ2_getChar_3b067_42 : decode cJ2_getChar_3b067 42 = .ok (.getstatic 59, 3) := by decide +kernel
theorem dJ2_getChar_3b067_45 : decode cJ2_getChar_3b067 45 = .ok (.ishl, 1) := by decide +kernel
theorem dJ2_getChar_3b067_46 : decode cJ2_getChar_3b067 46 = .ok (.aload_n 0, 1) := by decide +kernel
theorem dJ2_getChar_3b067_47 : decode cJ2_getChar_3b067 47 = .ok (.iload_n 1, 1) := by decide +kernel
theorem dJ2_getChar_3b067_48 : decode cJ2_getChar_3b067 48 = .ok (.baload, 1) := by decide +kernel
theorem dJ2_getChar_3b067_49 : decode cJ2_getChar_3b067 49 = .ok (.sipush 255, 3) := by decide +kernel
theorem dJ2_getChar_3b067_52 : decode cJ2_getChar_3b067 52 = .ok (.iand, 1) := by decide +kernel
theorem dJ2_getChar_3b067_53 : decode cJ2_getChar_3b067 53 = .ok (.getstatic 63, 3) := by decide +kernel
theorem dJ2_getChar_3b067_56 : decode cJ2_getChar_3b067 56 = .ok (.ishl, 1) := by decide +kernel
theorem dJ2_getChar_3b067_57 : decode cJ2_getChar_3b067 57 = .ok (.ior, 1) := by decide +kernel
theorem dJ2_getChar_3b067_58 : decode cJ2_getChar_3b067 58 = .ok (.i2c, 1) := by decide +kernel
theorem dJ2_getChar_3b067_59 : decode cJ2_getChar_3b067 59 = .ok (.ireturn, 1) := by decide +kernel
theorem dJ2_length_9d52b_0 : decode cJ2_length_9d52b 0 = .ok (.aload_n 0, 1) := by decide +kernel
theorem dJ2_length_9d52b_1 : decode cJ2_length_9d52b 1 = .ok (.arraylength, 1) := by decide +kernel
theorem dJ2_length_9d52b_2 : decode cJ2_length_9d52b 2 = .ok (.iconst 1, 1) := by decide +kernel
theorem dJ2_length_9d52b_3 : decode cJ2_length_9d52b 3 = .ok (.ishr, 1) := by decide +kernel
theorem dJ2_length_9d52b_4 : decode cJ2_length_9d52b 4 = .ok (.ireturn, 1) := by decide +kernel
theorem dJ2_charAt_3b067_0 : decode cJ2_charAt_3b067 0 = .ok (.iload_n 1, 1) := by decide +kernel
theorem dJ2_charAt_3b067_1 : decode cJ2_charAt_3b067 1 = .ok (.aload_n 0, 1) := by decide +kernel
theorem dJ2_charAt_3b067_2 : decode cJ2_charAt_3b067 2 = .ok (.invokestatic 67, 3) := by decide +kernel
theorem dJ2_charAt_3b067_5 : decode cJ2_charAt_3b067 5 = .ok (.aload_n 0, 1) := by decide +kernel
theorem dJ2_charAt_3b067_6 : decode cJ2_charAt_3b067 6 = .ok (.iload_n 1, 1) := by decide +kernel
theorem dJ2_charAt_3b067_7 : decode cJ2_charAt_3b067 7 = .ok (.invokestatic 71, 3) := by decide +kernel
theorem dJ2_charAt_3b067_10 : decode cJ2_charAt_3b067 10 = .ok (.ireturn, 1) := by decide +kernel
theorem dJ2_checkIndex_2214a_0 : decode cJ2_checkIndex_2214a 0 = .ok (.iload_n 0, 1) := by decide +kernel
theorem dJ2_checkIndex_2214a_1 : decode cJ2_checkIndex_2214a 1 = .ok (.aload_n 1, 1) := by decide +kernel
theorem dJ2_checkIndex_2214a_2 : decode cJ2_checkIndex_2214a 2 = .ok (.invokestatic 48, 3) := by decide +kernel
theorem dJ2_checkIndex_2214a_5 : decode cJ2_checkIndex_2214a 5 = .ok (.invokestatic 414, 3) := by decide +kernel
theorem dJ2_checkIndex_2214a_8 : decode cJ2_checkIndex_2214a 8 = .ok (.return_, 1) := by decide +kernel
theorem dJ7_fill_d0a16_0 : decode cJ7_fill_d0a16 0 = .ok (.iconst 0, 1) := by decide +kernel
theorem dJ7_fill_d0a16_1 : decode cJ7_fill_d0a16 1 = .ok (.istore_n 3, 1) := by decide +kernel
theorem dJ7_fill_d0a16_2 : decode cJ7_fill_d0a16 2 = .ok (.aload_n 0, 1) := by decide +kernel
theorem dJ7_fill_d0a16_3 : decode cJ7_fill_d0a16 3 = .ok (.arraylength, 1) := by decide +kernel
theorem dJ7_fill_d0a16_4 : decode cJ7_fill_d0a16 4 = .ok (.istore 4, 2) := by decide +kernel
theorem dJ7_fill_d0a16_6 : decode cJ7_fill_d0a16 6 = .ok (.iload_n 3, 1) := by decide +kernel
theorem dJ7_fill_d0a16_7 : decode cJ7_fill_d0a16 7 = .ok (.iload 4, 2) := by decide +kernel
theorem dJ7_fill_d0a16_9 : decode cJ7_fill_d0a16 9 = .ok (.if_icmp .ge 13, 3) := by decide +kernel
theorem dJ7_fill_d0a16_12 : decode cJ7_fill_d0a16 12 = .ok (.aload_n 0, 1) := by decide +kernel
theorem dJ7_fill_d0a16_13 : decode cJ7_fill_d0a16 13 = .ok (.iload_n 3, 1) := by decide +kernel
theorem dJ7_fill_d0a16_14 : decode cJ7_fill_d0a16 14 = .ok (.lload_n 1, 1) := by decide +kernel
theorem dJ7_fill_d0a16_15 : decode cJ7_fill_d0a16 15 = .ok (.lastore, 1) := by decide +kernel
theorem dJ7_fill_d0a16_16 : decode cJ7_fill_d0a16 16 = .ok (.iinc 3 1, 3) := by decide +kernel
theorem dJ7_fill_d0a16_19 : decode cJ7_fill_d0a16 19 = .ok (.goto (-13), 3) := by decide +kernel
theorem dJ7_fill_d0a16_22 : decode cJ7_fill_d0a16 22 = .ok (.return_, 1) := by decide +kernel
theorem dJ7_fill_53178_0 : decode cJ7_fill_53178 0 = .ok (.iconst 0, 1) := by decide +kernel
theorem dJ7_fill_53178_1 : decode cJ7_fill_53178 1 = .ok (.istore_n 2, 1) := by decide +kernel
theorem dJ7_fill_53178_2 : decode cJ7_fill_53178 2 = .ok (.aload_n 0, 1) := by decide +kernel
theorem dJ7_fill_53178_3 : decode cJ7_fill_53178 3 = .ok (.arraylength, 1) := by decide +kernel
theorem dJ7_fill_53178_4 : decode cJ7_fill_53178 4 = .ok (.istore_n 3, 1) := by decide +kernel
theorem dJ7_fill_53178_5 : decode cJ7_fill_53178 5 = .ok (.iload_n 2, 1) := by decide +kernel
theorem dJ7_fill_53178_6 : decode cJ7_fill_53178 6 = .ok (.iload_n 3, 1) := by decide +kernel
theorem dJ7_fill_53178_7 : decode cJ7_fill_53178 7 = .ok (.if_icmp .ge 13, 3) := by decide +kernel
theorem dJ7_fill_53178_10 : decode cJ7_fill_53178 10 = .ok (.aload_n 0, 1) := by decide +kernel
theorem dJ7_fill_53178_11 : decode cJ7_fill_53178 11 = .ok (.iload_n 2, 1) := by decide +kernel
theorem dJ7_fill_53178_12 : decode cJ7_fill_53178 12 = .ok (.iload_n 1, 1) := by decide +kernel
theorem dJ7_fill_53178_13 : decode cJ7_fill_53178 13 = .ok (.iastore, 1) := by decide +kernel
theorem dJ7_fill_53178_14 : decode cJ7_fill_53178 14 = .ok (.iinc 2 1, 3) := by decide +kernel
theorem dJ7_fill_53178_17 : decode cJ7_fill_53178 17 = .ok (.goto (-12), 3) := by decide +kernel
theorem dJ7_fill_53178_20 : decode cJ7_fill_53178 20 = .ok (.return_, 1) := by decide +kernel
theorem dJ3_checkIndex_8e157_0 : decode cJ3_checkIndex_8e157 0 = .ok (.iload_n 0, 1) := by decide +kernel
theorem dJ3_checkIndex_8e157_1 : decode cJ3_checkIndex_8e157 1 = .ok (.ifCond .lt 8, 3) := by decide +kernel
theorem dJ3_checkIndex_8e157_4 : decode cJ3_checkIndex_8e157 4 = .ok (.iload_n 0, 1) := by decide +kernel
theorem dJ3_checkIndex_8e157_5 : decode cJ3_checkIndex_8e157 5 = .ok (.iload_n 1, 1) := by decide +kernel
theorem dJ3_checkIndex_8e157_6 : decode cJ3_checkIndex_8e157 6 = .ok (.if_icmp .lt 10, 3) := by decide +kernel
theorem dJ3_checkIndex_8e157_9 : decode cJ3_checkIndex_8e157 9 = .ok (.aload_n 2, 1) := by decide +kernel
theorem dJ3_checkIndex_8e157_10 : decode cJ3_checkIndex_8e157 10 = .ok (.iload_n 0, 1) := by decide +kernel
theorem dJ3_checkIndex_8e157_11 : decode cJ3_checkIndex_8e157 11 = .ok (.iload_n 1, 1) := by decide +kernel
theorem dJ3_checkIndex_8e157_12 : decode cJ3_checkIndex_8e157 12 = .ok (.invokestatic 95, 3) := by decide +kernel
theorem dJ3_checkIndex_8e157_15 : decode cJ3_checkIndex_8e157 15 = .ok (.athrow, 1) := by decide +kernel
theorem dJ3_checkIndex_8e157_16 : decode cJ3_checkIndex_8e157 16 = .ok (.iload_n 0, 1) := by decide +kernel
theorem dJ3_checkIndex_8e157_17 : decode cJ3_checkIndex_8e157 17 = .ok (.ireturn, 1) := by decide +kernel
theorem dL_law_0 : decode cL_law 0 = .ok (.new 7, 3) := by decide +kernel
theorem dL_law_3 : decode cL_law 3 = .ok (.dup, 1) := by decide +kernel
theorem dL_law_4 : decode cL_law 4 = .ok (.invokespecial 9, 3) := by decide +kernel
theorem dL_law_7 : decode cL_law 7 = .ok (.astore_n 1, 1) := by decide +kernel
theorem dL_law_8 : decode cL_law 8 = .ok (.new 10, 3) := by decide +kernel
theorem dL_law_11 : decode cL_law 11 = .ok (.dup, 1) := by decide +kernel
theorem dL_law_12 : decode cL_law 12 = .ok (.invokespecial 12, 3) := by decide +kernel
theorem dL_law_15 : decode cL_law 15 = .ok (.astore_n 2, 1) := by decide +kernel
theorem dL_law_16 : decode cL_law 16 = .ok (.iconst 0, 1) := by decide +kernel
theorem dL_law_17 : decode cL_law 17 = .ok (.istore_n 3, 1) := by decide +kernel
theorem dL_law_18 : decode cL_law 18 = .ok (.iload_n 3, 1) := by decide +kernel
theorem dL_law_19 : decode cL_law 19 = .ok (.aload_n 0, 1) := by decide +kernel
theorem dL_law_20 : decode cL_law 20 = .ok (.arraylength, 1) := by decide +kernel
theorem dL_law_21 : decode cL_law 21 = .ok (.bipush 6, 2) := by decide +kernel
theorem dL_law_23 : decode cL_law 23 = .ok (.isub, 1) := by decide +kernel
theorem dL_law_24 : decode cL_law 24 = .ok (.if_icmp .gt 1497, 3) := by decide +kernel
theorem dL_law_27 : decode cL_law 27 = .ok (.aload_n 0, 1) := by decide +kernel
theorem dL_law_28 : decode cL_law 28 = .ok (.iload_n 3, 1) := by decide +kernel
theorem dL_law_29 : decode cL_law 29 = .ok (.iaload, 1) := by decide +kernel
theorem dL_law_30 : decode cL_law 30 = .ok (.bipush 63, 2) := by decide +kernel
theorem dL_law_32 : decode cL_law 32 = .ok (.iand, 1) := by decide +kernel
theorem dL_law_33 : decode cL_law 33 = .ok (.tableswitch 1482 0 39 #[175, 218, 291, 354, 388, 421, 444, 477, 540, 589, 632, 665, 698, 731, 754, 767, 790, 813, 846, 869, 902, 935, 968, 1011, 1044, 1097, 1130, 1163, 1186, 1209, 1242, 1285, 1308, 1321, 1344, 1367, 1410, 1433, 1446, 1459], 175) := by decide +kernel
theorem dL_law_208 : decode cL_law 208 = .ok (.aload_n 1, 1) := by decide +kernel
theorem dL_law_209 : decode cL_law 209 = .ok (.aload_n 0, 1) := by decide +kernel
theorem dL_law_210 : decode cL_law 210 = .ok (.iload_n 3, 1) := by decide +kernel
theorem dL_law_211 : decode cL_law 211 = .ok (.iconst 1, 1) := by decide +kernel
theorem dL_law_212 : decode cL_law 212 = .ok (.iadd, 1) := by decide +kernel
theorem dL_law_213 : decode cL_law 213 = .ok (.iaload, 1) := by decide +kernel
theorem dL_law_214 : decode cL_law 214 = .ok (.aload_n 0, 1) := by decide +kernel
theorem dL_law_215 : decode cL_law 215 = .ok (.iload_n 3, 1) := by decide +kernel
theorem dL_law_216 : decode cL_law 216 = .ok (.iconst 2, 1) := by decide +kernel
theorem dL_law_217 : decode cL_law 217 = .ok (.iadd, 1) := by decide +kernel
theorem dL_law_218 : decode cL_law 218 = .ok (.iaload, 1) := by decide +kernel
theorem dL_law_219 : decode cL_law 219 = .ok (.aload_n 0, 1) := by decide +kernel
theorem dL_law_220 : decode cL_law 220 = .ok (.iload_n 3, 1) := by decide +kernel
theorem dL_law_221 : decode cL_law 221 = .ok (.iconst 3, 1) := by decide +kernel
theorem dL_law_222 : decode cL_law 222 = .ok (.iadd, 1) := by decide +kernel
theorem dL_law_223 : decode cL_law 223 = .ok (.iaload, 1) := by decide +kernel
theorem dL_law_224 : decode cL_law 224 = .ok (.invokevirtual 13, 3) := by decide +kernel
theorem dL_law_227 : decode cL_law 227 = .ok (.aload_n 2, 1) := by decide +kernel
theorem dL_law_228 : decode cL_law 228 = .ok (.aload_n 0, 1) := by decide +kernel
theorem dL_law_229 : decode cL_law 229 = .ok (.iload_n 3, 1) := by decide +kernel
theorem dL_law_230 : decode cL_law 230 = .ok (.iconst 1, 1) := by decide +kernel
theorem dL_law_231 : decode cL_law 231 = .ok (.iadd, 1) := by decide +kernel
theorem dL_law_232 : decode cL_law 232 = .ok (.iaload, 1) := by decide +kernel
theorem dL_law_233 : decode cL_law 233 = .ok (.aload_n 0, 1) := by decide +kernel
theorem dL_law_234 : decode cL_law 234 = .ok (.iload_n 3, 1) := by decide +kernel
theorem dL_law_235 : decode cL_law 235 = .ok (.iconst 2, 1) := by decide +kernel
theorem dL_law_236 : decode cL_law 236 = .ok (.iadd, 1) := by decide +kernel
theorem dL_law_237 : decode cL_law 237 = .ok (.iaload, 1) := by decide +kernel
theorem dL_law_238 : decode cL_law 238 = .ok (.aload_n 0, 1) := by decide +kernel
theorem dL_law_239 : decode cL_law 239 = .ok (.iload_n 3, 1) := by decide +kernel
theorem dL_law_240 : decode cL_law 240 = .ok (.iconst 3, 1) := by decide +kernel
theorem dL_law_241 : decode cL_law 241 = .ok (.iadd, 1) := by decide +kernel
theorem dL_law_242 : decode cL_law 242 = .ok (.iaload, 1) := by decide +kernel
theorem dL_law_243 : decode cL_law 243 = .ok (.invokevirtual 17, 3) := by decide +kernel
theorem dL_law_246 : decode cL_law 246 = .ok (.if_icmp .eq 1269, 3) := by decide +kernel
theorem dL_law_249 : decode cL_law 249 = .ok (.iconst 0, 1) := by decide +kernel
theorem dL_law_250 : decode cL_law 250 = .ok (.ireturn, 1) := by decide +kernel
theorem dL_law_251 : decode cL_law 251 = .ok (.aload_n 1, 1) := by decide +kernel
theorem dL_law_252 : decode cL_law 252 = .ok (.aload_n 0, 1) := by decide +kernel
theorem dL_law_253 : decode cL_law 253 = .ok (.iload_n 3, 1) := by decide +kernel
theorem dL_law_254 : decode cL_law 254 = .ok (.iconst 1, 1) := by decide +kernel
theorem dL_law_255 : decode cL_law 255 = .ok (.iadd, 1) := by decide +kernel
theorem dL_law_256 : decode cL_law 256 = .ok (.iaload, 1) := by decide +kernel
theorem dL_law_257 : decode cL_law 257 = .ok (.aload_n 0, 1) := by decide +kernel
theorem dL_law_258 : decode cL_law 258 = .ok (.iload_n 3, 1) := by decide +kernel
theorem dL_law_259 : decode cL_law 259 = .ok (.iconst 2, 1) := by decide +kernel
theorem dL_law_260 : decode cL_law 260 = .ok (.iadd, 1) := by decide +kernel
theorem dL_law_261 : decode cL_law 261 = .ok (.iaload, 1) := by decide +kernel
theorem dL_law_262 : decode cL_law 262 = .ok (.aload_n 0, 1) := by decide +kernel
theorem dL_law_263 : decode cL_law 263 = .ok (.iload_n 3, 1) := by decide +kernel
theorem dL_law_264 : decode cL_law 264 = .ok (.iconst 3, 1) := by decide +kernel
theorem dL_law_265 : decode cL_law 265 = .ok (.iadd, 1) := by decide +kernel
theorem dL_law_266 : decode cL_law 266 = .ok (.iaload, 1) := by decide +kernel
theorem dL_law_267 : decode cL_law 267 = .ok (.i2l, 1) := by decide +kernel
theorem dL_law_268 : decode cL_law 268 = .ok (.bipush 32, 2) := by decide +kernel
theorem dL_law_270 : decode cL_law 270 = .ok (.lshl, 1) := by decide +kernel
theorem dL_law_271 : decode cL_law 271 = .ok (.aload_n 0, 1) := by decide +kernel
theorem dL_law_272 : decode cL_law 272 = .ok (.iload_n 3, 1) := by decide +kernel
theorem dL_law_273 : decode cL_law 273 = .ok (.iconst 4, 1) := by decide +kernel
theorem dL_law_274 : decode cL_law 274 = .ok (.iadd, 1) := by decide +kernel
theorem dL_law_275 : decode cL_law 275 = .ok (.iaload, 1) := by decide +kernel
theorem dL_law_276 : decode cL_law 276 = .ok (.i2l, 1) := by decide +kernel
theorem dL_law_277 : decode cL_law 277 = .ok (.ldc2_w 18, 3) := by decide +kernel
theorem dL_law_280 : decode cL_law 280 = .ok (.land, 1) := by decide +kernel
theorem dL_law_281 : decode cL_law 281 = .ok (.lor, 1) := by decide +kernel
theorem dL_law_282 : decode cL_law 282 = .ok (.invokevirtual 20, 3) := by decide +kernel
theorem dL_law_285 : decode cL_law 285 = .ok (.aload_n 2, 1) := by decide +kernel
theorem dL_law_286 : decode cL_law 286 = .ok (.aload_n 0, 1) := by decide +kernel
theorem dL_law_287 : decode cL_law 287 = .ok (.iload_n 3, 1) := by decide +kernel
theorem dL_law_288 : decode cL_law 288 = .ok (.iconst 1, 1) := by decide +kernel
theorem dL_law_289 : decode cL_law 289 = .ok (.iadd, 1) := by decide +kernel
theorem dL_law_290 : decode cL_law 290 = .ok (.iaload, 1) := by decide +kernel
theorem dL_law_291 : decode cL_law 291 = .ok (.aload_n 0, 1) := by decide +kernel
theorem dL_law_292 : decode cL_law 292 = .ok (.iload_n 3, 1) := by decide +kernel
theorem dL_law_293 : decode cL_law 293 = .ok (.iconst 2, 1) := by decide +kernel
theorem dL_law_294 : decode cL_law 294 = .ok (.iadd, 1) := by decide +kernel
theorem dL_law_295 : decode cL_law 295 = .ok (.iaload, 1) := by decide +kernel
theorem dL_law_296 : decode cL_law 296 = .ok (.aload_n 0, 1) := by decide +kernel
theorem dL_law_297 : decode cL_law 297 = .ok (.iload_n 3, 1) := by decide +kernel
theorem dL_law_298 : decode cL_law 298 = .ok (.iconst 3, 1) := by decide +kernel
theorem dL_law_299 : decode cL_law 299 = .ok (.iadd, 1) := by decide +kernel
theorem dL_law_300 : decode cL_law 300 = .ok (.iaload, 1) := by decide +kernel
theorem dL_law_301 : decode cL_law 301 = .ok (.i2l, 1) := by decide +kernel
theorem dL_law_302 : decode cL_law 302 = .ok (.bipush 32, 2) := by decide +kernel
theorem dL_law_304 : decode cL_law 304 = .ok (.lshl, 1) := by decide +kernel
theorem dL_law_305 : decode cL_law 305 = .ok (.aload_n 0, 1) := by decide +kernel
theorem dL_law_306 : decode cL_law 306 = .ok (.iload_n 3, 1) := by decide +kernel
theorem dL_law_307 : decode cL_law 307 = .ok (.iconst 4, 1) := by decide +kernel
theorem dL_law_308 : decode cL_law 308 = .ok (.iadd, 1) := by decide +kernel
theorem dL_law_309 : decode cL_law 309 = .ok (.iaload, 1) := by decide +kernel
theorem dL_law_310 : decode cL_law 310 = .ok (.i2l, 1) := by decide +kernel
theorem dL_law_311 : decode cL_law 311 = .ok (.ldc2_w 18, 3) := by decide +kernel
theorem dL_law_314 : decode cL_law 314 = .ok (.land, 1) := by decide +kernel
theorem dL_law_315 : decode cL_law 315 = .ok (.lor, 1) := by decide +kernel
theorem dL_law_316 : decode cL_law 316 = .ok (.invokevirtual 24, 3) := by decide +kernel
theorem dL_law_319 : decode cL_law 319 = .ok (.if_icmp .eq 1196, 3) := by decide +kernel
theorem dL_law_322 : decode cL_law 322 = .ok (.iconst 0, 1) := by decide +kernel
theorem dL_law_323 : decode cL_law 323 = .ok (.ireturn, 1) := by decide +kernel
theorem dL_law_324 : decode cL_law 324 = .ok (.aload_n 1, 1) := by decide +kernel
theorem dL_law_325 : decode cL_law 325 = .ok (.aload_n 0, 1) := by decide +kernel
theorem dL_law_326 : decode cL_law 326 = .ok (.iload_n 3, 1) := by decide +kernel
theorem dL_law_327 : decode cL_law 327 = .ok (.iconst 1, 1) := by decide +kernel
theorem dL_law_328 : decode cL_law 328 = .ok (.iadd, 1) := by decide +kernel
theorem dL_law_329 : decode cL_law 329 = .ok (.iaload, 1) := by decide +kernel
theorem dL_law_330 : decode cL_law 330 = .ok (.aload_n 0, 1) := by decide +kernel
theorem dL_law_331 : decode cL_law 331 = .ok (.iload_n 3, 1) := by decide +kernel
theorem dL_law_332 : decode cL_law 332 = .ok (.iconst 2, 1) := by decide +kernel
theorem dL_law_333 : decode cL_law 333 = .ok (.iadd, 1) := by decide +kernel
theorem dL_law_334 : decode cL_law 334 = .ok (.iaload, 1) := by decide +kernel
theorem dL_law_335 : decode cL_law 335 = .ok (.aload_n 0, 1) := by decide +kernel
theorem dL_law_336 : decode cL_law 336 = .ok (.iload_n 3, 1) := by decide +kernel
theorem dL_law_337 : decode cL_law 337 = .ok (.iconst 3, 1) := by decide +kernel
theorem dL_law_338 : decode cL_law 338 = .ok (.iadd, 1) := by decide +kernel
theorem dL_law_339 : decode cL_law 339 = .ok (.iaload, 1) := by decide +kernel
theorem dL_law_340 : decode cL_law 340 = .ok (.aload_n 0, 1) := by decide +kernel
theorem dL_law_341 : decode cL_law 341 = .ok (.iload_n 3, 1) := by decide +kernel
theorem dL_law_342 : decode cL_law 342 = .ok (.iconst 4, 1) := by decide +kernel
theorem dL_law_343 : decode cL_law 343 = .ok (.iadd, 1) := by decide +kernel
theorem dL_law_344 : decode cL_law 344 = .ok (.iaload, 1) := by decide +kernel
theorem dL_law_345 : decode cL_law 345 = .ok (.aload_n 0, 1) := by decide +kernel
theorem dL_law_346 : decode cL_law 346 = .ok (.iload_n 3, 1) := by decide +kernel
theorem dL_law_347 : decode cL_law 347 = .ok (.iconst 5, 1) := by decide +kernel
theorem dL_law_348 : decode cL_law 348 = .ok (.iadd, 1) := by decide +kernel
theorem dL_law_349 : decode cL_law 349 = .ok (.iaload, 1) := by decide +kernel
theorem dL_law_350 : decode cL_law 350 = .ok (.invokevirtual 25, 3) := by decide +kernel
theorem dL_law_353 : decode cL_law 353 = .ok (.aload_n 2, 1) := by decide +kernel
theorem dL_law_354 : decode cL_law 354 = .ok (.aload_n 0, 1) := by decide +kernel
theorem dL_law_355 : decode cL_law 355 = .ok (.iload_n 3, 1) := by decide +kernel
theorem dL_law_356 : decode cL_law 356 = .ok (.iconst 1, 1) := by decide +kernel
theorem dL_law_357 : decode cL_law 357 = .ok (.iadd, 1) := by decide +kernel
theorem dL_law_358 : decode cL_law 358 = .ok (.iaload, 1) := by decide +kernel
theorem dL_law_359 : decode cL_law 359 = .ok (.aload_n 0, 1) := by decide +kernel
theorem dL_law_360 : decode cL_law 360 = .ok (.iload_n 3, 1) := by decide +kernel
theorem dL_law_361 : decode cL_law 361 = .ok (.iconst 2, 1) := by decide +kernel
theorem dL_law_362 : decode cL_law 362 = .ok (.iadd, 1) := by decide +kernel
theorem dL_law_363 : decode cL_law 363 = .ok (.iaload, 1) := by decide +kernel
theorem dL_law_364 : decode cL_law 364 = .ok (.aload_n 0, 1) := by decide +kernel
theorem dL_law_365 : decode cL_law 365 = .ok (.iload_n 3, 1) := by decide +kernel
theorem dL_law_366 : decode cL_law 366 = .ok (.iconst 3, 1) := by decide +kernel
theorem dL_law_367 : decode cL_law 367 = .ok (.iadd, 1) := by decide +kernel
theorem dL_law_368 : decode cL_law 368 = .ok (.iaload, 1) := by decide +kernel
theorem dL_law_369 : decode cL_law 369 = .ok (.aload_n 0, 1) := by decide +kernel
theorem dL_law_370 : decode cL_law 370 = .ok (.iload_n 3, 1) := by decide +kernel
theorem dL_law_371 : decode cL_law 371 = .ok (.iconst 4, 1) := by decide +kernel
theorem dL_law_372 : decode cL_law 372 = .ok (.iadd, 1) := by decide +kernel
theorem dL_law_373 : decode cL_law 373 = .ok (.iaload, 1) := by decide +kernel
theorem dL_law_374 : decode cL_law 374 = .ok (.aload_n 0, 1) := by decide +kernel
theorem dL_law_375 : decode cL_law 375 = .ok (.iload_n 3, 1) := by decide +kernel
theorem dL_law_376 : decode cL_law 376 = .ok (.iconst 5, 1) := by decide +kernel
theorem dL_law_377 : decode cL_law 377 = .ok (.iadd, 1) := by decide +kernel
theorem dL_law_378 : decode cL_law 378 = .ok (.iaload, 1) := by decide +kernel
theorem dL_law_379 : decode cL_law 379 = .ok (.invokevirtual 29, 3) := by decide +kernel
theorem dL_law_382 : decode cL_law 382 = .ok (.if_icmp .eq 1133, 3) := by decide +kernel
theorem dL_law_385 : decode cL_law 385 = .ok (.iconst 0, 1) := by decide +kernel
theorem dL_law_386 : decode cL_law 386 = .ok (.ireturn, 1) := by decide +kernel
theorem dL_law_387 : decode cL_law 387 = .ok (.aload_n 1, 1) := by decide +kernel
theorem dL_law_388 : decode cL_law 388 = .ok (.aload_n 0, 1) := by decide +kernel
theorem dL_law_389 : decode cL_law 389 = .ok (.iload_n 3, 1) := by decide +kernel
theorem dL_law_390 : decode cL_law 390 = .ok (.iconst 1, 1) := by decide +kernel
theorem dL_law_391 : decode cL_law 391 = .ok (.iadd, 1) := by decide +kernel
theorem dL_law_392 : decode cL_law 392 = .ok (.iaload, 1) := by decide +kernel
theorem dL_law_393 : decode cL_law 393 = .ok (.aload_n 0, 1) := by decide +kernel
theorem dL_law_394 : decode cL_law 394 = .ok (.iload_n 3, 1) := by decide +kernel
theorem dL_law_395 : decode cL_law 395 = .ok (.iconst 2, 1) := by decide +kernel
theorem dL_law_396 : decode cL_law 396 = .ok (.iadd, 1) := by decide +kernel
theorem dL_law_397 : decode cL_law 397 = .ok (.iaload, 1) := by decide +kernel
theorem dL_law_398 : decode cL_law 398 = .ok (.invokevirtual 30, 3) := by decide +kernel
theorem dL_law_401 : decode cL_law 401 = .ok (.aload_n 2, 1) := by decide +kernel
theorem dL_law_402 : decode cL_law 402 = .ok (.aload_n 0, 1) := by decide +kernel
theorem dL_law_403 : decode cL_law 403 = .ok (.iload_n 3, 1) := by decide +kernel
theorem dL_law_404 : decode cL_law 404 = .ok (.iconst 1, 1) := by decide +kernel
theorem dL_law_405 : decode cL_law 405 = .ok (.iadd, 1) := by decide +kernel
theorem dL_law_406 : decode cL_law 406 = .ok (.iaload, 1) := by decide +kernel
theorem dL_law_407 : decode cL_law 407 = .ok (.aload_n 0, 1) := by decide +kernel
theorem dL_law_408 : decode cL_law 408 = .ok (.iload_n 3, 1) := by decide +kernel
theorem dL_law_409 : decode cL_law 409 = .ok (.iconst 2, 1) := by decide +kernel
theorem dL_law_410 : decode cL_law 410 = .ok (.iadd, 1) := by decide +kernel
theorem dL_law_411 : decode cL_law 411 = .ok (.iaload, 1) := by decide +kernel
theorem dL_law_412 : decode cL_law 412 = .ok (.invokevirtual 34, 3) := by decide +kernel
theorem dL_law_415 : decode cL_law 415 = .ok (.lcmp, 1) := by decide +kernel
theorem dL_law_416 : decode cL_law 416 = .ok (.ifCond .eq 1099, 3) := by decide +kernel
theorem dL_law_419 : decode cL_law 419 = .ok (.iconst 0, 1) := by decide +kernel
theorem dL_law_420 : decode cL_law 420 = .ok (.ireturn, 1) := by decide +kernel
theorem dL_law_421 : decode cL_law 421 = .ok (.aload_n 1, 1) := by decide +kernel
theorem dL_law_422 : decode cL_law 422 = .ok (.aload_n 0, 1) := by decide +kernel
theorem dL_law_423 : decode cL_law 423 = .ok (.iload_n 3, 1) := by decide +kernel
theorem dL_law_424 : decode cL_law 424 = .ok (.iconst 1, 1) := by decide +kernel
theorem dL_law_425 : decode cL_law 425 = .ok (.iadd, 1) := by decide +kernel
theorem dL_law_426 : decode cL_law 426 = .ok (.iaload, 1) := by decide +kernel
theorem dL_law_427 : decode cL_law 427 = .ok (.aload_n 0, 1) := by decide +kernel
theorem dL_law_428 : decode cL_law 428 = .ok (.iload_n 3, 1) := by decide +kernel
theorem dL_law_429 : decode cL_law 429 = .ok (.iconst 2, 1) := by decide +kernel
theorem dL_law_430 : decode cL_law 430 = .ok (.iadd, 1) := by decide +kernel
theorem dL_law_431 : decode cL_law 431 = .ok (.iaload, 1) := by decide +kernel
theorem dL_law_432 : decode cL_law 432 = .ok (.invokevirtual 35, 3) := by decide +kernel
theorem dL_law_435 : decode cL_law 435 = .ok (.aload_n 2, 1) := by decide +kernel
theorem dL_law_436 : decode cL_law 436 = .ok (.aload_n 0, 1) := by decide +kernel
theorem dL_law_437 : decode cL_law 437 = .ok (.iload_n 3, 1) := by decide +kernel
theorem dL_law_438 : decode cL_law 438 = .ok (.iconst 1, 1) := by decide +kernel
theorem dL_law_439 : decode cL_law 439 = .ok (.iadd, 1) := by decide +kernel
theorem dL_law_440 : decode cL_law 440 = .ok (.iaload, 1) := by decide +kernel
theorem dL_law_441 : decode cL_law 441 = .ok (.aload_n 0, 1) := by decide +kernel
theorem dL_law_442 : decode cL_law 442 = .ok (.iload_n 3, 1) := by decide +kernel
theorem dL_law_443 : decode cL_law 443 = .ok (.iconst 2, 1) := by decide +kernel
theorem dL_law_444 : decode cL_law 444 = .ok (.iadd, 1) := by decide +kernel
theorem dL_law_445 : decode cL_law 445 = .ok (.iaload, 1) := by decide +kernel
theorem dL_law_446 : decode cL_law 446 = .ok (.invokevirtual 39, 3) := by decide +kernel
theorem dL_law_449 : decode cL_law 449 = .ok (.if_icmp .eq 1066, 3) := by decide +kernel
theorem dL_law_452 : decode cL_law 452 = .ok (.iconst 0, 1) := by decide +kernel
theorem dL_law_453 : decode cL_law 453 = .ok (.ireturn, 1) := by decide +kernel
theorem dL_law_454 : decode cL_law 454 = .ok (.aload_n 1, 1) := by decide +kernel
theorem dL_law_455 : decode cL_law 455 = .ok (.aload_n 0, 1) := by decide +kernel
theorem dL_law_456 : decode cL_law 456 = .ok (.iload_n 3, 1) := by decide +kernel
theorem dL_law_457 : decode cL_law 457 = .ok (.iconst 1, 1) := by decide +kernel
theorem dL_law_458 : decode cL_law 458 = .ok (.iadd, 1) := by decide +kernel
theorem dL_law_459 : decode cL_law 459 = .ok (.iaload, 1) := by decide +kernel
theorem dL_law_460 : decode cL_law 460 = .ok (.invokevirtual 40, 3) := by decide +kernel
theorem dL_law_463 : decode cL_law 463 = .ok (.aload_n 2, 1) := by decide +kernel
theorem dL_law_464 : decode cL_law 464 = .ok (.aload_n 0, 1) := by decide +kernel
theorem dL_law_465 : decode cL_law 465 = .ok (.iload_n 3, 1) := by decide +kernel
theorem dL_law_466 : decode cL_law 466 = .ok (.iconst 1, 1) := by decide +kernel
theorem dL_law_467 : decode cL_law 467 = .ok (.iadd, 1) := by decide +kernel
theorem dL_law_468 : decode cL_law 468 = .ok (.iaload, 1) := by decide +kernel
theorem dL_law_469 : decode cL_law 469 = .ok (.invokevirtual 44, 3) := by decide +kernel
theorem dL_law_472 : decode cL_law 472 = .ok (.if_icmp .eq 1043, 3) := by decide +kernel
theorem dL_law_475 : decode cL_law 475 = .ok (.iconst 0, 1) := by decide +kernel
theorem dL_law_476 : decode cL_law 476 = .ok (.ireturn, 1) := by decide +kernel
theorem dL_law_477 : decode cL_law 477 = .ok (.aload_n 1, 1) := by decide +kernel
theorem dL_law_478 : decode cL_law 478 = .ok (.aload_n 0, 1) := by decide +kernel
theorem dL_law_479 : decode cL_law 479 = .ok (.iload_n 3, 1) := by decide +kernel
theorem dL_law_480 : decode cL_law 480 = .ok (.iconst 1, 1) := by decide +kernel
theorem dL_law_481 : decode cL_law 481 = .ok (.iadd, 1) := by decide +kernel
theorem dL_law_482 : decode cL_law 482 = .ok (.iaload, 1) := by decide +kernel
theorem dL_law_483 : decode cL_law 483 = .ok (.aload_n 0, 1) := by decide +kernel
theorem dL_law_484 : decode cL_law 484 = .ok (.iload_n 3, 1) := by decide +kernel
theorem dL_law_485 : decode cL_law 485 = .ok (.iconst 2, 1) := by decide +kernel
theorem dL_law_486 : decode cL_law 486 = .ok (.iadd, 1) := by decide +kernel
theorem dL_law_487 : decode cL_law 487 = .ok (.iaload, 1) := by decide +kernel
theorem dL_law_488 : decode cL_law 488 = .ok (.invokevirtual 45, 3) := by decide +kernel
theorem dL_law_491 : decode cL_law 491 = .ok (.aload_n 2, 1) := by decide +kernel
theorem dL_law_492 : decode cL_law 492 = .ok (.aload_n 0, 1) := by decide +kernel
theorem dL_law_493 : decode cL_law 493 = .ok (.iload_n 3, 1) := by decide +kernel
theorem dL_law_494 : decode cL_law 494 = .ok (.iconst 1, 1) := by decide +kernel
theorem dL_law_495 : decode cL_law 495 = .ok (.iadd, 1) := by decide +kernel
theorem dL_law_496 : decode cL_law 496 = .ok (.iaload, 1) := by decide +kernel
theorem dL_law_497 : decode cL_law 497 = .ok (.aload_n 0, 1) := by decide +kernel
theorem dL_law_498 : decode cL_law 498 = .ok (.iload_n 3, 1) := by decide +kernel
theorem dL_law_499 : decode cL_law 499 = .ok (.iconst 2, 1) := by decide +kernel
theorem dL_law_500 : decode cL_law 500 = .ok (.iadd, 1) := by decide +kernel
theorem dL_law_501 : decode cL_law 501 = .ok (.iaload, 1) := by decide +kernel
theorem dL_law_502 : decode cL_law 502 = .ok (.invokevirtual 48, 3) := by decide +kernel
theorem dL_law_505 : decode cL_law 505 = .ok (.if_icmp .eq 1010, 3) := by decide +kernel
theorem dL_law_508 : decode cL_law 508 = .ok (.iconst 0, 1) := by decide +kernel
theorem dL_law_509 : decode cL_law 509 = .ok (.ireturn, 1) := by decide +kernel
theorem dL_law_510 : decode cL_law 510 = .ok (.aload_n 1, 1) := by decide +kernel
theorem dL_law_511 : decode cL_law 511 = .ok (.aload_n 0, 1) := by decide +kernel
theorem dL_law_512 : decode cL_law 512 = .ok (.iload_n 3, 1) := by decide +kernel
theorem dL_law_513 : decode cL_law 513 = .ok (.iconst 1, 1) := by decide +kernel
theorem dL_law_514 : decode cL_law 514 = .ok (.iadd, 1) := by decide +kernel
theorem dL_law_515 : decode cL_law 515 = .ok (.iaload, 1) := by decide +kernel
theorem dL_law_516 : decode cL_law 516 = .ok (.aload_n 0, 1) := by decide +kernel
theorem dL_law_517 : decode cL_law 517 = .ok (.iload_n 3, 1) := by decide +kernel
theorem dL_law_518 : decode cL_law 518 = .ok (.iconst 2, 1) := by decide +kernel
theorem dL_law_519 : decode cL_law 519 = .ok (.iadd, 1) := by decide +kernel
theorem dL_law_520 : decode cL_law 520 = .ok (.iaload, 1) := by decide +kernel
theorem dL_law_521 : decode cL_law 521 = .ok (.aload_n 0, 1) := by decide +kernel
theorem dL_law_522 : decode cL_law 522 = .ok (.iload_n 3, 1) := by decide +kernel
theorem dL_law_523 : decode cL_law 523 = .ok (.iconst 3, 1) := by decide +kernel
theorem dL_law_524 : decode cL_law 524 = .ok (.iadd, 1) := by decide +kernel
theorem dL_law_525 : decode cL_law 525 = .ok (.iaload, 1) := by decide +kernel
theorem dL_law_526 : decode cL_law 526 = .ok (.aload_n 0, 1) := by decide +kernel
theorem dL_law_527 : decode cL_law 527 = .ok (.iload_n 3, 1) := by decide +kernel
theorem dL_law_528 : decode cL_law 528 = .ok (.iconst 4, 1) := by decide +kernel
theorem dL_law_529 : decode cL_law 529 = .ok (.iadd, 1) := by decide +kernel
theorem dL_law_530 : decode cL_law 530 = .ok (.iaload, 1) := by decide +kernel
theorem dL_law_531 : decode cL_law 531 = .ok (.aload_n 0, 1) := by decide +kernel
theorem dL_law_532 : decode cL_law 532 = .ok (.iload_n 3, 1) := by decide +kernel
theorem dL_law_533 : decode cL_law 533 = .ok (.iconst 5, 1) := by decide +kernel
theorem dL_law_534 : decode cL_law 534 = .ok (.iadd, 1) := by decide +kernel
theorem dL_law_535 : decode cL_law 535 = .ok (.iaload, 1) := by decide +kernel
theorem dL_law_536 : decode cL_law 536 = .ok (.invokevirtual 49, 3) := by decide +kernel
theorem dL_law_539 : decode cL_law 539 = .ok (.aload_n 2, 1) := by decide +kernel
theorem dL_law_540 : decode cL_law 540 = .ok (.aload_n 0, 1) := by decide +kernel
theorem dL_law_541 : decode cL_law 541 = .ok (.iload_n 3, 1) := by decide +kernel
theorem dL_law_542 : decode cL_law 542 = .ok (.iconst 1, 1) := by decide +kernel
theorem dL_law_543 : decode cL_law 543 = .ok (.iadd, 1) := by decide +kernel
theorem dL_law_544 : decode cL_law 544 = .ok (.iaload, 1) := by decide +kernel
theorem dL_law_545 : decode cL_law 545 = .ok (.aload_n 0, 1) := by decide +kernel
theorem dL_law_546 : decode cL_law 546 = .ok (.iload_n 3, 1) := by decide +kernel
theorem dL_law_547 : decode cL_law 547 = .ok (.iconst 2, 1) := by decide +kernel
theorem dL_law_548 : decode cL_law 548 = .ok (.iadd, 1) := by decide +kernel
theorem dL_law_549 : decode cL_law 549 = .ok (.iaload, 1) := by decide +kernel
theorem dL_law_550 : decode cL_law 550 = .ok (.aload_n 0, 1) := by decide +kernel
theorem dL_law_551 : decode cL_law 551 = .ok (.iload_n 3, 1) := by decide +kernel
theorem dL_law_552 : decode cL_law 552 = .ok (.iconst 3, 1) := by decide +kernel
theorem dL_law_553 : decode cL_law 553 = .ok (.iadd, 1) := by decide +kernel
theorem dL_law_554 : decode cL_law 554 = .ok (.iaload, 1) := by decide +kernel
theorem dL_law_555 : decode cL_law 555 = .ok (.aload_n 0, 1) := by decide +kernel
theorem dL_law_556 : decode cL_law 556 = .ok (.iload_n 3, 1) := by decide +kernel
theorem dL_law_557 : decode cL_law 557 = .ok (.iconst 4, 1) := by decide +kernel
theorem dL_law_558 : decode cL_law 558 = .ok (.iadd, 1) := by decide +kernel
theorem dL_law_559 : decode cL_law 559 = .ok (.iaload, 1) := by decide +kernel
theorem dL_law_560 : decode cL_law 560 = .ok (.aload_n 0, 1) := by decide +kernel
theorem dL_law_561 : decode cL_law 561 = .ok (.iload_n 3, 1) := by decide +kernel
theorem dL_law_562 : decode cL_law 562 = .ok (.iconst 5, 1) := by decide +kernel
theorem dL_law_563 : decode cL_law 563 = .ok (.iadd, 1) := by decide +kernel
theorem dL_law_564 : decode cL_law 564 = .ok (.iaload, 1) := by decide +kernel
theorem dL_law_565 : decode cL_law 565 = .ok (.invokevirtual 52, 3) := by decide +kernel
theorem dL_law_568 : decode cL_law 568 = .ok (.if_icmp .eq 947, 3) := by decide +kernel
theorem dL_law_571 : decode cL_law 571 = .ok (.iconst 0, 1) := by decide +kernel
theorem dL_law_572 : decode cL_law 572 = .ok (.ireturn, 1) := by decide +kernel
theorem dL_law_573 : decode cL_law 573 = .ok (.aload_n 1, 1) := by decide +kernel
theorem dL_law_574 : decode cL_law 574 = .ok (.aload_n 0, 1) := by decide +kernel
theorem dL_law_575 : decode cL_law 575 = .ok (.iload_n 3, 1) := by decide +kernel
theorem dL_law_576 : decode cL_law 576 = .ok (.iconst 1, 1) := by decide +kernel
theorem dL_law_577 : decode cL_law 577 = .ok (.iadd, 1) := by decide +kernel
theorem dL_law_578 : decode cL_law 578 = .ok (.iaload, 1) := by decide +kernel
theorem dL_law_579 : decode cL_law 579 = .ok (.aload_n 0, 1) := by decide +kernel
theorem dL_law_580 : decode cL_law 580 = .ok (.iload_n 3, 1) := by decide +kernel
theorem dL_law_581 : decode cL_law 581 = .ok (.iconst 2, 1) := by decide +kernel
theorem dL_law_582 : decode cL_law 582 = .ok (.iadd, 1) := by decide +kernel
theorem dL_law_583 : decode cL_law 583 = .ok (.iaload, 1) := by decide +kernel
theorem dL_law_584 : decode cL_law 584 = .ok (.ifCond .eq 7, 3) := by decide +kernel
theorem dL_law_587 : decode cL_law 587 = .ok (.iconst 1, 1) := by decide +kernel
theorem dL_law_588 : decode cL_law 588 = .ok (.goto 4, 3) := by decide +kernel
theorem dL_law_591 : decode cL_law 591 = .ok (.iconst 0, 1) := by decide +kernel
theorem dL_law_592 : decode cL_law 592 = .ok (.invokevirtual 53, 3) := by decide +kernel
theorem dL_law_595 : decode cL_law 595 = .ok (.aload_n 2, 1) := by decide +kernel
theorem dL_law_596 : decode cL_law 596 = .ok (.aload_n 0, 1) := by decide +kernel
theorem dL_law_597 : decode cL_law 597 = .ok (.iload_n 3, 1) := by decide +kernel
theorem dL_law_598 : decode cL_law 598 = .ok (.iconst 1, 1) := by decide +kernel
theorem dL_law_599 : decode cL_law 599 = .ok (.iadd, 1) := by decide +kernel
theorem dL_law_600 : decode cL_law 600 = .ok (.iaload, 1) := by decide +kernel
theorem dL_law_601 : decode cL_law 601 = .ok (.aload_n 0, 1) := by decide +kernel
theorem dL_law_602 : decode cL_law 602 = .ok (.iload_n 3, 1) := by decide +kernel
theorem dL_law_603 : decode cL_law 603 = .ok (.iconst 2, 1) := by decide +kernel
theorem dL_law_604 : decode cL_law 604 = .ok (.iadd, 1) := by decide +kernel
theorem dL_law_605 : decode cL_law 605 = .ok (.iaload, 1) := by decide +kernel
theorem dL_law_606 : decode cL_law 606 = .ok (.ifCond .eq 7, 3) := by decide +kernel
theorem dL_law_609 : decode cL_law 609 = .ok (.iconst 1, 1) := by decide +kernel
theorem dL_law_610 : decode cL_law 610 = .ok (.goto 4, 3) := by decide +kernel
theorem dL_law_613 : decode cL_law 613 = .ok (.iconst 0, 1) := by decide +kernel
theorem dL_law_614 : decode cL_law 614 = .ok (.invokevirtual 57, 3) := by decide +kernel
theorem dL_law_617 : decode cL_law 617 = .ok (.if_icmp .eq 898, 3) := by decide +kernel
theorem dL_law_620 : decode cL_law 620 = .ok (.iconst 0, 1) := by decide +kernel
theorem dL_law_621 : decode cL_law 621 = .ok (.ireturn, 1) := by decide +kernel
theorem dL_law_622 : decode cL_law 622 = .ok (.aload_n 1, 1) := by decide +kernel
theorem dL_law_623 : decode cL_law 623 = .ok (.aload_n 0, 1) := by decide +kernel
theorem dL_law_624 : decode cL_law 624 = .ok (.iload_n 3, 1) := by decide +kernel
theorem dL_law_625 : decode cL_law 625 = .ok (.iconst 1, 1) := by decide +kernel
theorem dL_law_626 : decode cL_law 626 = .ok (.iadd, 1) := by decide +kernel
theorem dL_law_627 : decode cL_law 627 = .ok (.iaload, 1) := by decide +kernel
theorem dL_law_628 : decode cL_law 628 = .ok (.aload_n 0, 1) := by decide +kernel
theorem dL_law_629 : decode cL_law 629 = .ok (.iload_n 3, 1) := by decide +kernel
theorem dL_law_630 : decode cL_law 630 = .ok (.iconst 2, 1) := by decide +kernel
theorem dL_law_631 : decode cL_law 631 = .ok (.iadd, 1) := by decide +kernel
theorem dL_law_632 : decode cL_law 632 = .ok (.iaload, 1) := by decide +kernel
theorem dL_law_633 : decode cL_law 633 = .ok (.aload_n 0, 1) := by decide +kernel
theorem dL_law_634 : decode cL_law 634 = .ok (.iload_n 3, 1) := by decide +kernel
theorem dL_law_635 : decode cL_law 635 = .ok (.iconst 3, 1) := by decide +kernel
theorem dL_law_636 : decode cL_law 636 = .ok (.iadd, 1) := by decide +kernel
theorem dL_law_637 : decode cL_law 637 = .ok (.iaload, 1) := by decide +kernel
theorem dL_law_638 : decode cL_law 638 = .ok (.invokevirtual 58, 3) := by decide +kernel
theorem dL_law_641 : decode cL_law 641 = .ok (.aload_n 2, 1) := by decide +kernel
theorem dL_law_642 : decode cL_law 642 = .ok (.aload_n 0, 1) := by decide +kernel
theorem dL_law_643 : decode cL_law 643 = .ok (.iload_n 3, 1) := by decide +kernel
theorem dL_law_644 : decode cL_law 644 = .ok (.iconst 1, 1) := by decide +kernel
theorem dL_law_645 : decode cL_law 645 = .ok (.iadd, 1) := by decide +kernel
theorem dL_law_646 : decode cL_law 646 = .ok (.iaload, 1) := by decide +kernel
theorem dL_law_647 : decode cL_law 647 = .ok (.aload_n 0, 1) := by decide +kernel
theorem dL_law_648 : decode cL_law 648 = .ok (.iload_n 3, 1) := by decide +kernel
theorem dL_law_649 : decode cL_law 649 = .ok (.iconst 2, 1) := by decide +kernel
theorem dL_law_650 : decode cL_law 650 = .ok (.iadd, 1) := by decide +kernel
theorem dL_law_651 : decode cL_law 651 = .ok (.iaload, 1) := by decide +kernel
theorem dL_law_652 : decode cL_law 652 = .ok (.aload_n 0, 1) := by decide +kernel
theorem dL_law_653 : decode cL_law 653 = .ok (.iload_n 3, 1) := by decide +kernel
theorem dL_law_654 : decode cL_law 654 = .ok (.iconst 3, 1) := by decide +kernel
theorem dL_law_655 : decode cL_law 655 = .ok (.iadd, 1) := by decide +kernel
theorem dL_law_656 : decode cL_law 656 = .ok (.iaload, 1) := by decide +kernel
theorem dL_law_657 : decode cL_law 657 = .ok (.invokevirtual 61, 3) := by decide +kernel
theorem dL_law_660 : decode cL_law 660 = .ok (.if_icmp .eq 855, 3) := by decide +kernel
theorem dL_law_663 : decode cL_law 663 = .ok (.iconst 0, 1) := by decide +kernel
theorem dL_law_664 : decode cL_law 664 = .ok (.ireturn, 1) := by decide +kernel
theorem dL_law_665 : decode cL_law 665 = .ok (.aload_n 1, 1) := by decide +kernel
theorem dL_law_666 : decode cL_law 666 = .ok (.aload_n 0, 1) := by decide +kernel
theorem dL_law_667 : decode cL_law 667 = .ok (.iload_n 3, 1) := by decide +kernel
theorem dL_law_668 : decode cL_law 668 = .ok (.iconst 1, 1) := by decide +kernel
theorem dL_law_669 : decode cL_law 669 = .ok (.iadd, 1) := by decide +kernel
theorem dL_law_670 : decode cL_law 670 = .ok (.iaload, 1) := by decide +kernel
theorem dL_law_671 : decode cL_law 671 = .ok (.aload_n 0, 1) := by decide +kernel
theorem dL_law_672 : decode cL_law 672 = .ok (.iload_n 3, 1) := by decide +kernel
theorem dL_law_673 : decode cL_law 673 = .ok (.iconst 2, 1) := by decide +kernel
theorem dL_law_674 : decode cL_law 674 = .ok (.iadd, 1) := by decide +kernel
theorem dL_law_675 : decode cL_law 675 = .ok (.iaload, 1) := by decide +kernel
theorem dL_law_676 : decode cL_law 676 = .ok (.invokevirtual 62, 3) := by decide +kernel
theorem dL_law_679 : decode cL_law 679 = .ok (.aload_n 2, 1) := by decide +kernel
theorem dL_law_680 : decode cL_law 680 = .ok (.aload_n 0, 1) := by decide +kernel
theorem dL_law_681 : decode cL_law 681 = .ok (.iload_n 3, 1) := by decide +kernel
theorem dL_law_682 : decode cL_law 682 = .ok (.iconst 1, 1) := by decide +kernel
theorem dL_law_683 : decode cL_law 683 = .ok (.iadd, 1) := by decide +kernel
theorem dL_law_684 : decode cL_law 684 = .ok (.iaload, 1) := by decide +kernel
theorem dL_law_685 : decode cL_law 685 = .ok (.aload_n 0, 1) := by decide +kernel
theorem dL_law_686 : decode cL_law 686 = .ok (.iload_n 3, 1) := by decide +kernel
theorem dL_law_687 : decode cL_law 687 = .ok (.iconst 2, 1) := by decide +kernel
theorem dL_law_688 : decode cL_law 688 = .ok (.iadd, 1) := by decide +kernel
theorem dL_law_689 : decode cL_law 689 = .ok (.iaload, 1) := by decide +kernel
theorem dL_law_690 : decode cL_law 690 = .ok (.invokevirtual 65, 3) := by decide +kernel
theorem dL_law_693 : decode cL_law 693 = .ok (.if_icmp .eq 822, 3) := by decide +kernel
theorem dL_law_696 : decode cL_law 696 = .ok (.iconst 0, 1) := by decide +kernel
theorem dL_law_697 : decode cL_law 697 = .ok (.ireturn, 1) := by decide +kernel
theorem dL_law_698 : decode cL_law 698 = .ok (.aload_n 1, 1) := by decide +kernel
theorem dL_law_699 : decode cL_law 699 = .ok (.aload_n 0, 1) := by decide +kernel
theorem dL_law_700 : decode cL_law 700 = .ok (.iload_n 3, 1) := by decide +kernel
theorem dL_law_701 : decode cL_law 701 = .ok (.iconst 1, 1) := by decide +kernel
theorem dL_law_702 : decode cL_law 702 = .ok (.iadd, 1) := by decide +kernel
theorem dL_law_703 : decode cL_law 703 = .ok (.iaload, 1) := by decide +kernel
theorem dL_law_704 : decode cL_law 704 = .ok (.aload_n 0, 1) := by decide +kernel
theorem dL_law_705 : decode cL_law 705 = .ok (.iload_n 3, 1) := by decide +kernel
theorem dL_law_706 : decode cL_law 706 = .ok (.iconst 2, 1) := by decide +kernel
theorem dL_law_707 : decode cL_law 707 = .ok (.iadd, 1) := by decide +kernel
theorem dL_law_708 : decode cL_law 708 = .ok (.iaload, 1) := by decide +kernel
theorem dL_law_709 : decode cL_law 709 = .ok (.invokevirtual 66, 3) := by decide +kernel
theorem dL_law_712 : decode cL_law 712 = .ok (.aload_n 2, 1) := by decide +kernel
theorem dL_law_713 : decode cL_law 713 = .ok (.aload_n 0, 1) := by decide +kernel
theorem dL_law_714 : decode cL_law 714 = .ok (.iload_n 3, 1) := by decide +kernel
theorem dL_law_715 : decode cL_law 715 = .ok (.iconst 1, 1) := by decide +kernel
theorem dL_law_716 : decode cL_law 716 = .ok (.iadd, 1) := by decide +kernel
theorem dL_law_717 : decode cL_law 717 = .ok (.iaload, 1) := by decide +kernel
theorem dL_law_718 : decode cL_law 718 = .ok (.aload_n 0, 1) := by decide +kernel
theorem dL_law_719 : decode cL_law 719 = .ok (.iload_n 3, 1) := by decide +kernel
theorem dL_law_720 : decode cL_law 720 = .ok (.iconst 2, 1) := by decide +kernel
theorem dL_law_721 : decode cL_law 721 = .ok (.iadd, 1) := by decide +kernel
theorem dL_law_722 : decode cL_law 722 = .ok (.iaload, 1) := by decide +kernel
theorem dL_law_723 : decode cL_law 723 = .ok (.invokevirtual 69, 3) := by decide +kernel
theorem dL_law_726 : decode cL_law 726 = .ok (.if_icmp .eq 789, 3) := by decide +kernel
theorem dL_law_729 : decode cL_law 729 = .ok (.iconst 0, 1) := by decide +kernel
theorem dL_law_730 : decode cL_law 730 = .ok (.ireturn, 1) := by decide +kernel
theorem dL_law_731 : decode cL_law 731 = .ok (.aload_n 1, 1) := by decide +kernel
theorem dL_law_732 : decode cL_law 732 = .ok (.aload_n 0, 1) := by decide +kernel
theorem dL_law_733 : decode cL_law 733 = .ok (.iload_n 3, 1) := by decide +kernel
theorem dL_law_734 : decode cL_law 734 = .ok (.iconst 1, 1) := by decide +kernel
theorem dL_law_735 : decode cL_law 735 = .ok (.iadd, 1) := by decide +kernel
theorem dL_law_736 : decode cL_law 736 = .ok (.iaload, 1) := by decide +kernel
theorem dL_law_737 : decode cL_law 737 = .ok (.aload_n 0, 1) := by decide +kernel
theorem dL_law_738 : decode cL_law 738 = .ok (.iload_n 3, 1) := by decide +kernel
theorem dL_law_739 : decode cL_law 739 = .ok (.iconst 2, 1) := by decide +kernel
theorem dL_law_740 : decode cL_law 740 = .ok (.iadd, 1) := by decide +kernel
theorem dL_law_741 : decode cL_law 741 = .ok (.iaload, 1) := by decide +kernel
theorem dL_law_742 : decode cL_law 742 = .ok (.invokevirtual 70, 3) := by decide +kernel
theorem dL_law_745 : decode cL_law 745 = .ok (.aload_n 2, 1) := by decide +kernel
theorem dL_law_746 : decode cL_law 746 = .ok (.aload_n 0, 1) := by decide +kernel
theorem dL_law_747 : decode cL_law 747 = .ok (.iload_n 3, 1) := by decide +kernel
theorem dL_law_748 : decode cL_law 748 = .ok (.iconst 1, 1) := by decide +kernel
theorem dL_law_749 : decode cL_law 749 = .ok (.iadd, 1) := by decide +kernel
theorem dL_law_750 : decode cL_law 750 = .ok (.iaload, 1) := by decide +kernel
theorem dL_law_751 : decode cL_law 751 = .ok (.aload_n 0, 1) := by decide +kernel
theorem dL_law_752 : decode cL_law 752 = .ok (.iload_n 3, 1) := by decide +kernel
theorem dL_law_753 : decode cL_law 753 = .ok (.iconst 2, 1) := by decide +kernel
theorem dL_law_754 : decode cL_law 754 = .ok (.iadd, 1) := by decide +kernel
theorem dL_law_755 : decode cL_law 755 = .ok (.iaload, 1) := by decide +kernel
theorem dL_law_756 : decode cL_law 756 = .ok (.invokevirtual 73, 3) := by decide +kernel
theorem dL_law_759 : decode cL_law 759 = .ok (.if_icmp .eq 756, 3) := by decide +kernel
theorem dL_law_762 : decode cL_law 762 = .ok (.iconst 0, 1) := by decide +kernel
theorem dL_law_763 : decode cL_law 763 = .ok (.ireturn, 1) := by decide +kernel
theorem dL_law_764 : decode cL_law 764 = .ok (.aload_n 1, 1) := by decide +kernel
theorem dL_law_765 : decode cL_law 765 = .ok (.aload_n 0, 1) := by decide +kernel
theorem dL_law_766 : decode cL_law 766 = .ok (.iload_n 3, 1) := by decide +kernel
theorem dL_law_767 : decode cL_law 767 = .ok (.iconst 1, 1) := by decide +kernel
theorem dL_law_768 : decode cL_law 768 = .ok (.iadd, 1) := by decide +kernel
theorem dL_law_769 : decode cL_law 769 = .ok (.iaload, 1) := by decide +kernel
theorem dL_law_770 : decode cL_law 770 = .ok (.invokevirtual 74, 3) := by decide +kernel
theorem dL_law_773 : decode cL_law 773 = .ok (.aload_n 2, 1) := by decide +kernel
theorem dL_law_774 : decode cL_law 774 = .ok (.aload_n 0, 1) := by decide +kernel
theorem dL_law_775 : decode cL_law 775 = .ok (.iload_n 3, 1) := by decide +kernel
theorem dL_law_776 : decode cL_law 776 = .ok (.iconst 1, 1) := by decide +kernel
theorem dL_law_777 : decode cL_law 777 = .ok (.iadd, 1) := by decide +kernel
theorem dL_law_778 : decode cL_law 778 = .ok (.iaload, 1) := by decide +kernel
theorem dL_law_779 : decode cL_law 779 = .ok (.invokevirtual 77, 3) := by decide +kernel
theorem dL_law_782 : decode cL_law 782 = .ok (.if_icmp .eq 733, 3) := by decide +kernel
theorem dL_law_785 : decode cL_law 785 = .ok (.iconst 0, 1) := by decide +kernel
theorem dL_law_786 : decode cL_law 786 = .ok (.ireturn, 1) := by decide +kernel
theorem dL_law_787 : decode cL_law 787 = .ok (.aload_n 1, 1) := by decide +kernel
theorem dL_law_788 : decode cL_law 788 = .ok (.invokevirtual 78, 3) := by decide +kernel
theorem dL_law_791 : decode cL_law 791 = .ok (.aload_n 2, 1) := by decide +kernel
theorem dL_law_792 : decode cL_law 792 = .ok (.invokevirtual 82, 3) := by decide +kernel
theorem dL_law_795 : decode cL_law 795 = .ok (.if_icmp .eq 720, 3) := by decide +kernel
theorem dL_law_798 : decode cL_law 798 = .ok (.iconst 0, 1) := by decide +kernel
theorem dL_law_799 : decode cL_law 799 = .ok (.ireturn, 1) := by decide +kernel
theorem dL_law_800 : decode cL_law 800 = .ok (.aload_n 1, 1) := by decide +kernel
theorem dL_law_801 : decode cL_law 801 = .ok (.aload_n 0, 1) := by decide +kernel
theorem dL_law_802 : decode cL_law 802 = .ok (.iload_n 3, 1) := by decide +kernel
theorem dL_law_803 : decode cL_law 803 = .ok (.iconst 1, 1) := by decide +kernel
theorem dL_law_804 : decode cL_law 804 = .ok (.iadd, 1) := by decide +kernel
theorem dL_law_805 : decode cL_law 805 = .ok (.iaload, 1) := by decide +kernel
theorem dL_law_806 : decode cL_law 806 = .ok (.invokevirtual 83, 3) := by decide +kernel
theorem dL_law_809 : decode cL_law 809 = .ok (.aload_n 2, 1) := by decide +kernel
theorem dL_law_810 : decode cL_law 810 = .ok (.aload_n 0, 1) := by decide +kernel
theorem dL_law_811 : decode cL_law 811 = .ok (.iload_n 3, 1) := by decide +kernel
theorem dL_law_812 : decode cL_law 812 = .ok (.iconst 1, 1) := by decide +kernel
theorem dL_law_813 : decode cL_law 813 = .ok (.iadd, 1) := by decide +kernel
theorem dL_law_814 : decode cL_law 814 = .ok (.iaload, 1) := by decide +kernel
theorem dL_law_815 : decode cL_law 815 = .ok (.invokevirtual 86, 3) := by decide +kernel
theorem dL_law_818 : decode cL_law 818 = .ok (.if_icmp .eq 697, 3) := by decide +kernel
theorem dL_law_821 : decode cL_law 821 = .ok (.iconst 0, 1) := by decide +kernel
theorem dL_law_822 : decode cL_law 822 = .ok (.ireturn, 1) := by decide +kernel
theorem dL_law_823 : decode cL_law 823 = .ok (.aload_n 1, 1) := by decide +kernel
theorem dL_law_824 : decode cL_law 824 = .ok (.aload_n 0, 1) := by decide +kernel
theorem dL_law_825 : decode cL_law 825 = .ok (.iload_n 3, 1) := by decide +kernel
theorem dL_law_826 : decode cL_law 826 = .ok (.iconst 1, 1) := by decide +kernel
theorem dL_law_827 : decode cL_law 827 = .ok (.iadd, 1) := by decide +kernel
theorem dL_law_828 : decode cL_law 828 = .ok (.iaload, 1) := by decide +kernel
theorem dL_law_829 : decode cL_law 829 = .ok (.invokevirtual 87, 3) := by decide +kernel
theorem dL_law_832 : decode cL_law 832 = .ok (.aload_n 2, 1) := by decide +kernel
theorem dL_law_833 : decode cL_law 833 = .ok (.aload_n 0, 1) := by decide +kernel
theorem dL_law_834 : decode cL_law 834 = .ok (.iload_n 3, 1) := by decide +kernel
theorem dL_law_835 : decode cL_law 835 = .ok (.iconst 1, 1) := by decide +kernel
theorem dL_law_836 : decode cL_law 836 = .ok (.iadd, 1) := by decide +kernel
theorem dL_law_837 : decode cL_law 837 = .ok (.iaload, 1) := by decide +kernel
theorem dL_law_838 : decode cL_law 838 = .ok (.invokevirtual 90, 3) := by decide +kernel
theorem dL_law_841 : decode cL_law 841 = .ok (.if_icmp .eq 674, 3) := by decide +kernel
theorem dL_law_844 : decode cL_law 844 = .ok (.iconst 0, 1) := by decide +kernel
theorem dL_law_845 : decode cL_law 845 = .ok (.ireturn, 1) := by decide +kernel
theorem dL_law_846 : decode cL_law 846 = .ok (.aload_n 1, 1) := by decide +kernel
theorem dL_law_847 : decode cL_law 847 = .ok (.aload_n 0, 1) := by decide +kernel
theorem dL_law_848 : decode cL_law 848 = .ok (.iload_n 3, 1) := by decide +kernel
theorem dL_law_849 : decode cL_law 849 = .ok (.iconst 1, 1) := by decide +kernel
theorem dL_law_850 : decode cL_law 850 = .ok (.iadd, 1) := by decide +kernel
theorem dL_law_851 : decode cL_law 851 = .ok (.iaload, 1) := by decide +kernel
theorem dL_law_852 : decode cL_law 852 = .ok (.aload_n 0, 1) := by decide +kernel
theorem dL_law_853 : decode cL_law 853 = .ok (.iload_n 3, 1) := by decide +kernel
theorem dL_law_854 : decode cL_law 854 = .ok (.iconst 2, 1) := by decide +kernel
theorem dL_law_855 : decode cL_law 855 = .ok (.iadd, 1) := by decide +kernel
theorem dL_law_856 : decode cL_law 856 = .ok (.iaload, 1) := by decide +kernel
theorem dL_law_857 : decode cL_law 857 = .ok (.invokevirtual 91, 3) := by decide +kernel
theorem dL_law_860 : decode cL_law 860 = .ok (.aload_n 2, 1) := by decide +kernel
theorem dL_law_861 : decode cL_law 861 = .ok (.aload_n 0, 1) := by decide +kernel
theorem dL_law_862 : decode cL_law 862 = .ok (.iload_n 3, 1) := by decide +kernel
theorem dL_law_863 : decode cL_law 863 = .ok (.iconst 1, 1) := by decide +kernel
theorem dL_law_864 : decode cL_law 864 = .ok (.iadd, 1) := by decide +kernel
theorem dL_law_865 : decode cL_law 865 = .ok (.iaload, 1) := by decide +kernel
theorem dL_law_866 : decode cL_law 866 = .ok (.aload_n 0, 1) := by decide +kernel
theorem dL_law_867 : decode cL_law 867 = .ok (.iload_n 3, 1) := by decide +kernel
theorem dL_law_868 : decode cL_law 868 = .ok (.iconst 2, 1) := by decide +kernel
theorem dL_law_869 : decode cL_law 869 = .ok (.iadd, 1) := by decide +kernel
theorem dL_law_870 : decode cL_law 870 = .ok (.iaload, 1) := by decide +kernel
theorem dL_law_871 : decode cL_law 871 = .ok (.invokevirtual 94, 3) := by decide +kernel
theorem dL_law_874 : decode cL_law 874 = .ok (.if_icmp .eq 641, 3) := by decide +kernel
theorem dL_law_877 : decode cL_law 877 = .ok (.iconst 0, 1) := by decide +kernel
theorem dL_law_878 : decode cL_law 878 = .ok (.ireturn, 1) := by decide +kernel
theorem dL_law_879 : decode cL_law 879 = .ok (.aload_n 1, 1) := by decide +kernel
theorem dL_law_880 : decode cL_law 880 = .ok (.aload_n 0, 1) := by decide +kernel
theorem dL_law_881 : decode cL_law 881 = .ok (.iload_n 3, 1) := by decide +kernel
theorem dL_law_882 : decode cL_law 882 = .ok (.iconst 1, 1) := by decide +kernel
theorem dL_law_883 : decode cL_law 883 = .ok (.iadd, 1) := by decide +kernel
theorem dL_law_884 : decode cL_law 884 = .ok (.iaload, 1) := by decide +kernel
theorem dL_law_885 : decode cL_law 885 = .ok (.invokevirtual 95, 3) := by decide +kernel
theorem dL_law_888 : decode cL_law 888 = .ok (.aload_n 2, 1) := by decide +kernel
theorem dL_law_889 : decode cL_law 889 = .ok (.aload_n 0, 1) := by decide +kernel
theorem dL_law_890 : decode cL_law 890 = .ok (.iload_n 3, 1) := by decide +kernel
theorem dL_law_891 : decode cL_law 891 = .ok (.iconst 1, 1) := by decide +kernel
theorem dL_law_892 : decode cL_law 892 = .ok (.iadd, 1) := by decide +kernel
theorem dL_law_893 : decode cL_law 893 = .ok (.iaload, 1) := by decide +kernel
theorem dL_law_894 : decode cL_law 894 = .ok (.invokevirtual 98, 3) := by decide +kernel
theorem dL_law_897 : decode cL_law 897 = .ok (.if_icmp .eq 618, 3) := by decide +kernel
theorem dL_law_900 : decode cL_law 900 = .ok (.iconst 0, 1) := by decide +kernel
theorem dL_law_901 : decode cL_law 901 = .ok (.ireturn, 1) := by decide +kernel
theorem dL_law_902 : decode cL_law 902 = .ok (.aload_n 1, 1) := by decide +kernel
theorem dL_law_903 : decode cL_law 903 = .ok (.aload_n 0, 1) := by decide +kernel
theorem dL_law_904 : decode cL_law 904 = .ok (.iload_n 3, 1) := by decide +kernel
theorem dL_law_905 : decode cL_law 905 = .ok (.iconst 1, 1) := by decide +kernel
theorem dL_law_906 : decode cL_law 906 = .ok (.iadd, 1) := by decide +kernel
theorem dL_law_907 : decode cL_law 907 = .ok (.iaload, 1) := by decide +kernel
theorem dL_law_908 : decode cL_law 908 = .ok (.aload_n 0, 1) := by decide +kernel
theorem dL_law_909 : decode cL_law 909 = .ok (.iload_n 3, 1) := by decide +kernel
theorem dL_law_910 : decode cL_law 910 = .ok (.iconst 2, 1) := by decide +kernel
theorem dL_law_911 : decode cL_law 911 = .ok (.iadd, 1) := by decide +kernel
theorem dL_law_912 : decode cL_law 912 = .ok (.iaload, 1) := by decide +kernel
theorem dL_law_913 : decode cL_law 913 = .ok (.invokevirtual 99, 3) := by decide +kernel
theorem dL_law_916 : decode cL_law 916 = .ok (.aload_n 2, 1) := by decide +kernel
theorem dL_law_917 : decode cL_law 917 = .ok (.aload_n 0, 1) := by decide +kernel
theorem dL_law_918 : decode cL_law 918 = .ok (.iload_n 3, 1) := by decide +kernel
theorem dL_law_919 : decode cL_law 919 = .ok (.iconst 1, 1) := by decide +kernel
theorem dL_law_920 : decode cL_law 920 = .ok (.iadd, 1) := by decide +kernel
theorem dL_law_921 : decode cL_law 921 = .ok (.iaload, 1) := by decide +kernel
theorem dL_law_922 : decode cL_law 922 = .ok (.aload_n 0, 1) := by decide +kernel
theorem dL_law_923 : decode cL_law 923 = .ok (.iload_n 3, 1) := by decide +kernel
theorem dL_law_924 : decode cL_law 924 = .ok (.iconst 2, 1) := by decide +kernel
theorem dL_law_925 : decode cL_law 925 = .ok (.iadd, 1) := by decide +kernel
theorem dL_law_926 : decode cL_law 926 = .ok (.iaload, 1) := by decide +kernel
theorem dL_law_927 : decode cL_law 927 = .ok (.invokevirtual 102, 3) := by decide +kernel
theorem dL_law_930 : decode cL_law 930 = .ok (.if_icmp .eq 585, 3) := by decide +kernel
theorem dL_law_933 : decode cL_law 933 = .ok (.iconst 0, 1) := by decide +kernel
theorem dL_law_934 : decode cL_law 934 = .ok (.ireturn, 1) := by decide +kernel
theorem dL_law_935 : decode cL_law 935 = .ok (.aload_n 1, 1) := by decide +kernel
theorem dL_law_936 : decode cL_law 936 = .ok (.aload_n 0, 1) := by decide +kernel
theorem dL_law_937 : decode cL_law 937 = .ok (.iload_n 3, 1) := by decide +kernel
theorem dL_law_938 : decode cL_law 938 = .ok (.iconst 1, 1) := by decide +kernel
theorem dL_law_939 : decode cL_law 939 = .ok (.iadd, 1) := by decide +kernel
theorem dL_law_940 : decode cL_law 940 = .ok (.iaload, 1) := by decide +kernel
theorem dL_law_941 : decode cL_law 941 = .ok (.aload_n 0, 1) := by decide +kernel
theorem dL_law_942 : decode cL_law 942 = .ok (.iload_n 3, 1) := by decide +kernel
theorem dL_law_943 : decode cL_law 943 = .ok (.iconst 2, 1) := by decide +kernel
theorem dL_law_944 : decode cL_law 944 = .ok (.iadd, 1) := by decide +kernel
theorem dL_law_945 : decode cL_law 945 = .ok (.iaload, 1) := by decide +kernel
theorem dL_law_946 : decode cL_law 946 = .ok (.invokevirtual 103, 3) := by decide +kernel
theorem dL_law_949 : decode cL_law 949 = .ok (.aload_n 2, 1) := by decide +kernel
theorem dL_law_950 : decode cL_law 950 = .ok (.aload_n 0, 1) := by decide +kernel
theorem dL_law_951 : decode cL_law 951 = .ok (.iload_n 3, 1) := by decide +kernel
theorem dL_law_952 : decode cL_law 952 = .ok (.iconst 1, 1) := by decide +kernel
theorem dL_law_953 : decode cL_law 953 = .ok (.iadd, 1) := by decide +kernel
theorem dL_law_954 : decode cL_law 954 = .ok (.iaload, 1) := by decide +kernel
theorem dL_law_955 : decode cL_law 955 = .ok (.aload_n 0, 1) := by decide +kernel
theorem dL_law_956 : decode cL_law 956 = .ok (.iload_n 3, 1) := by decide +kernel
theorem dL_law_957 : decode cL_law 957 = .ok (.iconst 2, 1) := by decide +kernel
theorem dL_law_958 : decode cL_law 958 = .ok (.iadd, 1) := by decide +kernel
theorem dL_law_959 : decode cL_law 959 = .ok (.iaload, 1) := by decide +kernel
theorem dL_law_960 : decode cL_law 960 = .ok (.invokevirtual 106, 3) := by decide +kernel
theorem dL_law_963 : decode cL_law 963 = .ok (.if_icmp .eq 552, 3) := by decide +kernel
theorem dL_law_966 : decode cL_law 966 = .ok (.iconst 0, 1) := by decide +kernel
theorem dL_law_967 : decode cL_law 967 = .ok (.ireturn, 1) := by decide +kernel
theorem dL_law_968 : decode cL_law 968 = .ok (.aload_n 1, 1) := by decide +kernel
theorem dL_law_969 : decode cL_law 969 = .ok (.aload_n 0, 1) := by decide +kernel
theorem dL_law_970 : decode cL_law 970 = .ok (.iload_n 3, 1) := by decide +kernel
theorem dL_law_971 : decode cL_law 971 = .ok (.iconst 1, 1) := by decide +kernel
theorem dL_law_972 : decode cL_law 972 = .ok (.iadd, 1) := by decide +kernel
theorem dL_law_973 : decode cL_law 973 = .ok (.iaload, 1) := by decide +kernel
theorem dL_law_974 : decode cL_law 974 = .ok (.aload_n 0, 1) := by decide +kernel
theorem dL_law_975 : decode cL_law 975 = .ok (.iload_n 3, 1) := by decide +kernel
theorem dL_law_976 : decode cL_law 976 = .ok (.iconst 2, 1) := by decide +kernel
theorem dL_law_977 : decode cL_law 977 = .ok (.iadd, 1) := by decide +kernel
theorem dL_law_978 : decode cL_law 978 = .ok (.iaload, 1) := by decide +kernel
theorem dL_law_979 : decode cL_law 979 = .ok (.invokevirtual 107, 3) := by decide +kernel
theorem dL_law_982 : decode cL_law 982 = .ok (.aload_n 2, 1) := by decide +kernel
theorem dL_law_983 : decode cL_law 983 = .ok (.aload_n 0, 1) := by decide +kernel
theorem dL_law_984 : decode cL_law 984 = .ok (.iload_n 3, 1) := by decide +kernel
theorem dL_law_985 : decode cL_law 985 = .ok (.iconst 1, 1) := by decide +kernel
theorem dL_law_986 : decode cL_law 986 = .ok (.iadd, 1) := by decide +kernel
theorem dL_law_987 : decode cL_law 987 = .ok (.iaload, 1) := by decide +kernel
theorem dL_law_988 : decode cL_law 988 = .ok (.aload_n 0, 1) := by decide +kernel
theorem dL_law_989 : decode cL_law 989 = .ok (.iload_n 3, 1) := by decide +kernel
theorem dL_law_990 : decode cL_law 990 = .ok (.iconst 2, 1) := by decide +kernel
theorem dL_law_991 : decode cL_law 991 = .ok (.iadd, 1) := by decide +kernel
theorem dL_law_992 : decode cL_law 992 = .ok (.iaload, 1) := by decide +kernel
theorem dL_law_993 : decode cL_law 993 = .ok (.invokevirtual 110, 3) := by decide +kernel
theorem dL_law_996 : decode cL_law 996 = .ok (.if_icmp .eq 519, 3) := by decide +kernel
theorem dL_law_999 : decode cL_law 999 = .ok (.iconst 0, 1) := by decide +kernel
theorem dL_law_1000 : decode cL_law 1000 = .ok (.ireturn, 1) := by decide +kernel
theorem dL_law_1001 : decode cL_law 1001 = .ok (.aload_n 1, 1) := by decide +kernel
theorem dL_law_1002 : decode cL_law 1002 = .ok (.aload_n 0, 1) := by decide +kernel
theorem dL_law_1003 : decode cL_law 1003 = .ok (.iload_n 3, 1) := by decide +kernel
theorem dL_law_1004 : decode cL_law 1004 = .ok (.iconst 1, 1) := by decide +kernel
theorem dL_law_1005 : decode cL_law 1005 = .ok (.iadd, 1) := by decide +kernel
theorem dL_law_1006 : decode cL_law 1006 = .ok (.iaload, 1) := by decide +kernel
theorem dL_law_1007 : decode cL_law 1007 = .ok (.aload_n 0, 1) := by decide +kernel
theorem dL_law_1008 : decode cL_law 1008 = .ok (.iload_n 3, 1) := by decide +kernel
theorem dL_law_1009 : decode cL_law 1009 = .ok (.iconst 2, 1) := by decide +kernel
theorem dL_law_1010 : decode cL_law 1010 = .ok (.iadd, 1) := by decide +kernel
theorem dL_law_1011 : decode cL_law 1011 = .ok (.iaload, 1) := by decide +kernel
theorem dL_law_1012 : decode cL_law 1012 = .ok (.aload_n 0, 1) := by decide +kernel
theorem dL_law_1013 : decode cL_law 1013 = .ok (.iload_n 3, 1) := by decide +kernel
theorem dL_law_1014 : decode cL_law 1014 = .ok (.iconst 3, 1) := by decide +kernel
theorem dL_law_1015 : decode cL_law 1015 = .ok (.iadd, 1) := by decide +kernel
theorem dL_law_1016 : decode cL_law 1016 = .ok (.iaload, 1) := by decide +kernel
theorem dL_law_1017 : decode cL_law 1017 = .ok (.invokevirtual 111, 3) := by decide +kernel
theorem dL_law_1020 : decode cL_law 1020 = .ok (.aload_n 2, 1) := by decide +kernel
theorem dL_law_1021 : decode cL_law 1021 = .ok (.aload_n 0, 1) := by decide +kernel
theorem dL_law_1022 : decode cL_law 1022 = .ok (.iload_n 3, 1) := by decide +kernel
theorem dL_law_1023 : decode cL_law 1023 = .ok (.iconst 1, 1) := by decide +kernel
theorem dL_law_1024 : decode cL_law 1024 = .ok (.iadd, 1) := by decide +kernel
theorem dL_law_1025 : decode cL_law 1025 = .ok (.iaload, 1) := by decide +kernel
theorem dL_law_1026 : decode cL_law 1026 = .ok (.aload_n 0, 1) := by decide +kernel
theorem dL_law_1027 : decode cL_law 1027 = .ok (.iload_n 3, 1) := by decide +kernel
theorem dL_law_1028 : decode cL_law 1028 = .ok (.iconst 2, 1) := by decide +kernel
theorem dL_law_1029 : decode cL_law 1029 = .ok (.iadd, 1) := by decide +kernel
theorem dL_law_1030 : decode cL_law 1030 = .ok (.iaload, 1) := by decide +kernel
theorem dL_law_1031 : decode cL_law 1031 = .ok (.aload_n 0, 1) := by decide +kernel
theorem dL_law_1032 : decode cL_law 1032 = .ok (.iload_n 3, 1) := by decide +kernel
theorem dL_law_1033 : decode cL_law 1033 = .ok (.iconst 3, 1) := by decide +kernel
theorem dL_law_1034 : decode cL_law 1034 = .ok (.iadd, 1) := by decide +kernel
theorem dL_law_1035 : decode cL_law 1035 = .ok (.iaload, 1) := by decide +kernel
theorem dL_law_1036 : decode cL_law 1036 = .ok (.invokevirtual 114, 3) := by decide +kernel
theorem dL_law_1039 : decode cL_law 1039 = .ok (.if_icmp .eq 476, 3) := by decide +kernel
theorem dL_law_1042 : decode cL_law 1042 = .ok (.iconst 0, 1) := by decide +kernel
theorem dL_law_1043 : decode cL_law 1043 = .ok (.ireturn, 1) := by decide +kernel
theorem dL_law_1044 : decode cL_law 1044 = .ok (.aload_n 1, 1) := by decide +kernel
theorem dL_law_1045 : decode cL_law 1045 = .ok (.aload_n 0, 1) := by decide +kernel
theorem dL_law_1046 : decode cL_law 1046 = .ok (.iload_n 3, 1) := by decide +kernel
theorem dL_law_1047 : decode cL_law 1047 = .ok (.iconst 1, 1) := by decide +kernel
theorem dL_law_1048 : decode cL_law 1048 = .ok (.iadd, 1) := by decide +kernel
theorem dL_law_1049 : decode cL_law 1049 = .ok (.iaload, 1) := by decide +kernel
theorem dL_law_1050 : decode cL_law 1050 = .ok (.aload_n 0, 1) := by decide +kernel
theorem dL_law_1051 : decode cL_law 1051 = .ok (.iload_n 3, 1) := by decide +kernel
theorem dL_law_1052 : decode cL_law 1052 = .ok (.iconst 2, 1) := by decide +kernel
theorem dL_law_1053 : decode cL_law 1053 = .ok (.iadd, 1) := by decide +kernel
theorem dL_law_1054 : decode cL_law 1054 = .ok (.iaload, 1) := by decide +kernel
theorem dL_law_1055 : decode cL_law 1055 = .ok (.invokevirtual 115, 3) := by decide +kernel
theorem dL_law_1058 : decode cL_law 1058 = .ok (.aload_n 2, 1) := by decide +kernel
theorem dL_law_1059 : decode cL_law 1059 = .ok (.aload_n 0, 1) := by decide +kernel
theorem dL_law_1060 : decode cL_law 1060 = .ok (.iload_n 3, 1) := by decide +kernel
theorem dL_law_1061 : decode cL_law 1061 = .ok (.iconst 1, 1) := by decide +kernel
theorem dL_law_1062 : decode cL_law 1062 = .ok (.iadd, 1) := by decide +kernel
theorem dL_law_1063 : decode cL_law 1063 = .ok (.iaload, 1) := by decide +kernel
theorem dL_law_1064 : decode cL_law 1064 = .ok (.aload_n 0, 1) := by decide +kernel
theorem dL_law_1065 : decode cL_law 1065 = .ok (.iload_n 3, 1) := by decide +kernel
theorem dL_law_1066 : decode cL_law 1066 = .ok (.iconst 2, 1) := by decide +kernel
theorem dL_law_1067 : decode cL_law 1067 = .ok (.iadd, 1) := by decide +kernel
theorem dL_law_1068 : decode cL_law 1068 = .ok (.iaload, 1) := by decide +kernel
theorem dL_law_1069 : decode cL_law 1069 = .ok (.invokevirtual 118, 3) := by decide +kernel
theorem dL_law_1072 : decode cL_law 1072 = .ok (.if_icmp .eq 443, 3) := by decide +kernel
theorem dL_law_1075 : decode cL_law 1075 = .ok (.iconst 0, 1) := by decide +kernel
theorem dL_law_1076 : decode cL_law 1076 = .ok (.ireturn, 1) := by decide +kernel
theorem dL_law_1077 : decode cL_law 1077 = .ok (.aload_n 1, 1) := by decide +kernel
theorem dL_law_1078 : decode cL_law 1078 = .ok (.aload_n 0, 1) := by decide +kernel
theorem dL_law_1079 : decode cL_law 1079 = .ok (.iload_n 3, 1) := by decide +kernel
theorem dL_law_1080 : decode cL_law 1080 = .ok (.iconst 1, 1) := by decide +kernel
theorem dL_law_1081 : decode cL_law 1081 = .ok (.iadd, 1) := by decide +kernel
theorem dL_law_1082 : decode cL_law 1082 = .ok (.iaload, 1) := by decide +kernel
theorem dL_law_1083 : decode cL_law 1083 = .ok (.aload_n 0, 1) := by decide +kernel
theorem dL_law_1084 : decode cL_law 1084 = .ok (.iload_n 3, 1) := by decide +kernel
theorem dL_law_1085 : decode cL_law 1085 = .ok (.iconst 2, 1) := by decide +kernel
theorem dL_law_1086 : decode cL_law 1086 = .ok (.iadd, 1) := by decide +kernel
theorem dL_law_1087 : decode cL_law 1087 = .ok (.iaload, 1) := by decide +kernel
theorem dL_law_1088 : decode cL_law 1088 = .ok (.aload_n 0, 1) := by decide +kernel
theorem dL_law_1089 : decode cL_law 1089 = .ok (.iload_n 3, 1) := by decide +kernel
theorem dL_law_1090 : decode cL_law 1090 = .ok (.iconst 3, 1) := by decide +kernel
theorem dL_law_1091 : decode cL_law 1091 = .ok (.iadd, 1) := by decide +kernel
theorem dL_law_1092 : decode cL_law 1092 = .ok (.iaload, 1) := by decide +kernel
theorem dL_law_1093 : decode cL_law 1093 = .ok (.aload_n 0, 1) := by decide +kernel
theorem dL_law_1094 : decode cL_law 1094 = .ok (.iload_n 3, 1) := by decide +kernel
theorem dL_law_1095 : decode cL_law 1095 = .ok (.iconst 4, 1) := by decide +kernel
theorem dL_law_1096 : decode cL_law 1096 = .ok (.iadd, 1) := by decide +kernel
theorem dL_law_1097 : decode cL_law 1097 = .ok (.iaload, 1) := by decide +kernel
theorem dL_law_1098 : decode cL_law 1098 = .ok (.invokevirtual 119, 3) := by decide +kernel
theorem dL_law_1101 : decode cL_law 1101 = .ok (.aload_n 2, 1) := by decide +kernel
theorem dL_law_1102 : decode cL_law 1102 = .ok (.aload_n 0, 1) := by decide +kernel
theorem dL_law_1103 : decode cL_law 1103 = .ok (.iload_n 3, 1) := by decide +kernel
theorem dL_law_1104 : decode cL_law 1104 = .ok (.iconst 1, 1) := by decide +kernel
theorem dL_law_1105 : decode cL_law 1105 = .ok (.iadd, 1) := by decide +kernel
theorem dL_law_1106 : decode cL_law 1106 = .ok (.iaload, 1) := by decide +kernel
theorem dL_law_1107 : decode cL_law 1107 = .ok (.aload_n 0, 1) := by decide +kernel
theorem dL_law_1108 : decode cL_law 1108 = .ok (.iload_n 3, 1) := by decide +kernel
theorem dL_law_1109 : decode cL_law 1109 = .ok (.iconst 2, 1) := by decide +kernel
theorem dL_law_1110 : decode cL_law 1110 = .ok (.iadd, 1) := by decide +kernel
theorem dL_law_1111 : decode cL_law 1111 = .ok (.iaload, 1) := by decide +kernel
theorem dL_law_1112 : decode cL_law 1112 = .ok (.aload_n 0, 1) := by decide +kernel
theorem dL_law_1113 : decode cL_law 1113 = .ok (.iload_n 3, 1) := by decide +kernel
theorem dL_law_1114 : decode cL_law 1114 = .ok (.iconst 3, 1) := by decide +kernel
theorem dL_law_1115 : decode cL_law 1115 = .ok (.iadd, 1) := by decide +kernel
theorem dL_law_1116 : decode cL_law 1116 = .ok (.iaload, 1) := by decide +kernel
theorem dL_law_1117 : decode cL_law 1117 = .ok (.aload_n 0, 1) := by decide +kernel
theorem dL_law_1118 : decode cL_law 1118 = .ok (.iload_n 3, 1) := by decide +kernel
theorem dL_law_1119 : decode cL_law 1119 = .ok (.iconst 4, 1) := by decide +kernel
theorem dL_law_1120 : decode cL_law 1120 = .ok (.iadd, 1) := by decide +kernel
theorem dL_law_1121 : decode cL_law 1121 = .ok (.iaload, 1) := by decide +kernel
theorem dL_law_1122 : decode cL_law 1122 = .ok (.invokevirtual 123, 3) := by decide +kernel
theorem dL_law_1125 : decode cL_law 1125 = .ok (.if_icmp .eq 390, 3) := by decide +kernel
theorem dL_law_1128 : decode cL_law 1128 = .ok (.iconst 0, 1) := by decide +kernel
theorem dL_law_1129 : decode cL_law 1129 = .ok (.ireturn, 1) := by decide +kernel
theorem dL_law_1130 : decode cL_law 1130 = .ok (.aload_n 1, 1) := by decide +kernel
theorem dL_law_1131 : decode cL_law 1131 = .ok (.aload_n 0, 1) := by decide +kernel
theorem dL_law_1132 : decode cL_law 1132 = .ok (.iload_n 3, 1) := by decide +kernel
theorem dL_law_1133 : decode cL_law 1133 = .ok (.iconst 1, 1) := by decide +kernel
theorem dL_law_1134 : decode cL_law 1134 = .ok (.iadd, 1) := by decide +kernel
theorem dL_law_1135 : decode cL_law 1135 = .ok (.iaload, 1) := by decide +kernel
theorem dL_law_1136 : decode cL_law 1136 = .ok (.aload_n 0, 1) := by decide +kernel
theorem dL_law_1137 : decode cL_law 1137 = .ok (.iload_n 3, 1) := by decide +kernel
theorem dL_law_1138 : decode cL_law 1138 = .ok (.iconst 2, 1) := by decide +kernel
theorem dL_law_1139 : decode cL_law 1139 = .ok (.iadd, 1) := by decide +kernel
theorem dL_law_1140 : decode cL_law 1140 = .ok (.iaload, 1) := by decide +kernel
theorem dL_law_1141 : decode cL_law 1141 = .ok (.invokevirtual 124, 3) := by decide +kernel
theorem dL_law_1144 : decode cL_law 1144 = .ok (.aload_n 2, 1) := by decide +kernel
theorem dL_law_1145 : decode cL_law 1145 = .ok (.aload_n 0, 1) := by decide +kernel
theorem dL_law_1146 : decode cL_law 1146 = .ok (.iload_n 3, 1) := by decide +kernel
theorem dL_law_1147 : decode cL_law 1147 = .ok (.iconst 1, 1) := by decide +kernel
theorem dL_law_1148 : decode cL_law 1148 = .ok (.iadd, 1) := by decide +kernel
theorem dL_law_1149 : decode cL_law 1149 = .ok (.iaload, 1) := by decide +kernel
theorem dL_law_1150 : decode cL_law 1150 = .ok (.aload_n 0, 1) := by decide +kernel
theorem dL_law_1151 : decode cL_law 1151 = .ok (.iload_n 3, 1) := by decide +kernel
theorem dL_law_1152 : decode cL_law 1152 = .ok (.iconst 2, 1) := by decide +kernel
theorem dL_law_1153 : decode cL_law 1153 = .ok (.iadd, 1) := by decide +kernel
theorem dL_law_1154 : decode cL_law 1154 = .ok (.iaload, 1) := by decide +kernel
theorem dL_law_1155 : decode cL_law 1155 = .ok (.invokevirtual 127, 3) := by decide +kernel
theorem dL_law_1158 : decode cL_law 1158 = .ok (.if_icmp .eq 357, 3) := by decide +kernel
theorem dL_law_1161 : decode cL_law 1161 = .ok (.iconst 0, 1) := by decide +kernel
theorem dL_law_1162 : decode cL_law 1162 = .ok (.ireturn, 1) := by decide +kernel
theorem dL_law_1163 : decode cL_law 1163 = .ok (.aload_n 1, 1) := by decide +kernel
theorem dL_law_1164 : decode cL_law 1164 = .ok (.aload_n 0, 1) := by decide +kernel
theorem dL_law_1165 : decode cL_law 1165 = .ok (.iload_n 3, 1) := by decide +kernel
theorem dL_law_1166 : decode cL_law 1166 = .ok (.iconst 1, 1) := by decide +kernel
theorem dL_law_1167 : decode cL_law 1167 = .ok (.iadd, 1) := by decide +kernel
theorem dL_law_1168 : decode cL_law 1168 = .ok (.iaload, 1) := by decide +kernel
theorem dL_law_1169 : decode cL_law 1169 = .ok (.aload_n 0, 1) := by decide +kernel
theorem dL_law_1170 : decode cL_law 1170 = .ok (.iload_n 3, 1) := by decide +kernel
theorem dL_law_1171 : decode cL_law 1171 = .ok (.iconst 2, 1) := by decide +kernel
theorem dL_law_1172 : decode cL_law 1172 = .ok (.iadd, 1) := by decide +kernel
theorem dL_law_1173 : decode cL_law 1173 = .ok (.iaload, 1) := by decide +kernel
theorem dL_law_1174 : decode cL_law 1174 = .ok (.invokevirtual 128, 3) := by decide +kernel
theorem dL_law_1177 : decode cL_law 1177 = .ok (.aload_n 2, 1) := by decide +kernel
theorem dL_law_1178 : decode cL_law 1178 = .ok (.aload_n 0, 1) := by decide +kernel
theorem dL_law_1179 : decode cL_law 1179 = .ok (.iload_n 3, 1) := by decide +kernel
theorem dL_law_1180 : decode cL_law 1180 = .ok (.iconst 1, 1) := by decide +kernel
theorem dL_law_1181 : decode cL_law 1181 = .ok (.iadd, 1) := by decide +kernel
theorem dL_law_1182 : decode cL_law 1182 = .ok (.iaload, 1) := by decide +kernel
theorem dL_law_1183 : decode cL_law 1183 = .ok (.aload_n 0, 1) := by decide +kernel
theorem dL_law_1184 : decode cL_law 1184 = .ok (.iload_n 3, 1) := by decide +kernel
theorem dL_law_1185 : decode cL_law 1185 = .ok (.iconst 2, 1) := by decide +kernel
theorem dL_law_1186 : decode cL_law 1186 = .ok (.iadd, 1) := by decide +kernel
theorem dL_law_1187 : decode cL_law 1187 = .ok (.iaload, 1) := by decide +kernel
theorem dL_law_1188 : decode cL_law 1188 = .ok (.invokevirtual 131, 3) := by decide +kernel
theorem dL_law_1191 : decode cL_law 1191 = .ok (.if_icmp .eq 324, 3) := by decide +kernel
theorem dL_law_1194 : decode cL_law 1194 = .ok (.iconst 0, 1) := by decide +kernel
theorem dL_law_1195 : decode cL_law 1195 = .ok (.ireturn, 1) := by decide +kernel
theorem dL_law_1196 : decode cL_law 1196 = .ok (.aload_n 1, 1) := by decide +kernel
theorem dL_law_1197 : decode cL_law 1197 = .ok (.aload_n 0, 1) := by decide +kernel
theorem dL_law_1198 : decode cL_law 1198 = .ok (.iload_n 3, 1) := by decide +kernel
theorem dL_law_1199 : decode cL_law 1199 = .ok (.iconst 1, 1) := by decide +kernel
theorem dL_law_1200 : decode cL_law 1200 = .ok (.iadd, 1) := by decide +kernel
theorem dL_law_1201 : decode cL_law 1201 = .ok (.iaload, 1) := by decide +kernel
theorem dL_law_1202 : decode cL_law 1202 = .ok (.invokevirtual 132, 3) := by decide +kernel
theorem dL_law_1205 : decode cL_law 1205 = .ok (.aload_n 2, 1) := by decide +kernel
theorem dL_law_1206 : decode cL_law 1206 = .ok (.aload_n 0, 1) := by decide +kernel
theorem dL_law_1207 : decode cL_law 1207 = .ok (.iload_n 3, 1) := by decide +kernel
theorem dL_law_1208 : decode cL_law 1208 = .ok (.iconst 1, 1) := by decide +kernel
theorem dL_law_1209 : decode cL_law 1209 = .ok (.iadd, 1) := by decide +kernel
theorem dL_law_1210 : decode cL_law 1210 = .ok (.iaload, 1) := by decide +kernel
theorem dL_law_1211 : decode cL_law 1211 = .ok (.invokevirtual 135, 3) := by decide +kernel
theorem dL_law_1214 : decode cL_law 1214 = .ok (.if_icmp .eq 301, 3) := by decide +kernel
theorem dL_law_1217 : decode cL_law 1217 = .ok (.iconst 0, 1) := by decide +kernel
theorem dL_law_1218 : decode cL_law 1218 = .ok (.ireturn, 1) := by decide +kernel
theorem dL_law_1219 : decode cL_law 1219 = .ok (.aload_n 1, 1) := by decide +kernel
theorem dL_law_1220 : decode cL_law 1220 = .ok (.aload_n 0, 1) := by decide +kernel
theorem dL_law_1221 : decode cL_law 1221 = .ok (.iload_n 3, 1) := by decide +kernel
theorem dL_law_1222 : decode cL_law 1222 = .ok (.iconst 1, 1) := by decide +kernel
theorem dL_law_1223 : decode cL_law 1223 = .ok (.iadd, 1) := by decide +kernel
theorem dL_law_1224 : decode cL_law 1224 = .ok (.iaload, 1) := by decide +kernel
theorem dL_law_1225 : decode cL_law 1225 = .ok (.invokevirtual 136, 3) := by decide +kernel
theorem dL_law_1228 : decode cL_law 1228 = .ok (.aload_n 2, 1) := by decide +kernel
theorem dL_law_1229 : decode cL_law 1229 = .ok (.aload_n 0, 1) := by decide +kernel
theorem dL_law_1230 : decode cL_law 1230 = .ok (.iload_n 3, 1) := by decide +kernel
theorem dL_law_1231 : decode cL_law 1231 = .ok (.iconst 1, 1) := by decide +kernel
theorem dL_law_1232 : decode cL_law 1232 = .ok (.iadd, 1) := by decide +kernel
theorem dL_law_1233 : decode cL_law 1233 = .ok (.iaload, 1) := by decide +kernel
theorem dL_law_1234 : decode cL_law 1234 = .ok (.invokevirtual 139, 3) := by decide +kernel
theorem dL_law_1237 : decode cL_law 1237 = .ok (.if_icmp .eq 278, 3) := by decide +kernel
theorem dL_law_1240 : decode cL_law 1240 = .ok (.iconst 0, 1) := by decide +kernel
theorem dL_law_1241 : decode cL_law 1241 = .ok (.ireturn, 1) := by decide +kernel
theorem dL_law_1242 : decode cL_law 1242 = .ok (.aload_n 1, 1) := by decide +kernel
theorem dL_law_1243 : decode cL_law 1243 = .ok (.aload_n 0, 1) := by decide +kernel
theorem dL_law_1244 : decode cL_law 1244 = .ok (.iload_n 3, 1) := by decide +kernel
theorem dL_law_1245 : decode cL_law 1245 = .ok (.iconst 1, 1) := by decide +kernel
theorem dL_law_1246 : decode cL_law 1246 = .ok (.iadd, 1) := by decide +kernel
theorem dL_law_1247 : decode cL_law 1247 = .ok (.iaload, 1) := by decide +kernel
theorem dL_law_1248 : decode cL_law 1248 = .ok (.aload_n 0, 1) := by decide +kernel
theorem dL_law_1249 : decode cL_law 1249 = .ok (.iload_n 3, 1) := by decide +kernel
theorem dL_law_1250 : decode cL_law 1250 = .ok (.iconst 2, 1) := by decide +kernel
theorem dL_law_1251 : decode cL_law 1251 = .ok (.iadd, 1) := by decide +kernel
theorem dL_law_1252 : decode cL_law 1252 = .ok (.iaload, 1) := by decide +kernel
theorem dL_law_1253 : decode cL_law 1253 = .ok (.invokevirtual 140, 3) := by decide +kernel
theorem dL_law_1256 : decode cL_law 1256 = .ok (.aload_n 2, 1) := by decide +kernel
theorem dL_law_1257 : decode cL_law 1257 = .ok (.aload_n 0, 1) := by decide +kernel
theorem dL_law_1258 : decode cL_law 1258 = .ok (.iload_n 3, 1) := by decide +kernel
theorem dL_law_1259 : decode cL_law 1259 = .ok (.iconst 1, 1) := by decide +kernel
theorem dL_law_1260 : decode cL_law 1260 = .ok (.iadd, 1) := by decide +kernel
theorem dL_law_1261 : decode cL_law 1261 = .ok (.iaload, 1) := by decide +kernel
theorem dL_law_1262 : decode cL_law 1262 = .ok (.aload_n 0, 1) := by decide +kernel
theorem dL_law_1263 : decode cL_law 1263 = .ok (.iload_n 3, 1) := by decide +kernel
theorem dL_law_1264 : decode cL_law 1264 = .ok (.iconst 2, 1) := by decide +kernel
theorem dL_law_1265 : decode cL_law 1265 = .ok (.iadd, 1) := by decide +kernel
theorem dL_law_1266 : decode cL_law 1266 = .ok (.iaload, 1) := by decide +kernel
theorem dL_law_1267 : decode cL_law 1267 = .ok (.invokevirtual 143, 3) := by decide +kernel
theorem dL_law_1270 : decode cL_law 1270 = .ok (.if_icmp .eq 245, 3) := by decide +kernel
theorem dL_law_1273 : decode cL_law 1273 = .ok (.iconst 0, 1) := by decide +kernel
theorem dL_law_1274 : decode cL_law 1274 = .ok (.ireturn, 1) := by decide +kernel
theorem dL_law_1275 : decode cL_law 1275 = .ok (.aload_n 1, 1) := by decide +kernel
theorem dL_law_1276 : decode cL_law 1276 = .ok (.aload_n 0, 1) := by decide +kernel
theorem dL_law_1277 : decode cL_law 1277 = .ok (.iload_n 3, 1) := by decide +kernel
theorem dL_law_1278 : decode cL_law 1278 = .ok (.iconst 1, 1) := by decide +kernel
theorem dL_law_1279 : decode cL_law 1279 = .ok (.iadd, 1) := by decide +kernel
theorem dL_law_1280 : decode cL_law 1280 = .ok (.iaload, 1) := by decide +kernel
theorem dL_law_1281 : decode cL_law 1281 = .ok (.aload_n 0, 1) := by decide +kernel
theorem dL_law_1282 : decode cL_law 1282 = .ok (.iload_n 3, 1) := by decide +kernel
theorem dL_law_1283 : decode cL_law 1283 = .ok (.iconst 2, 1) := by decide +kernel
theorem dL_law_1284 : decode cL_law 1284 = .ok (.iadd, 1) := by decide +kernel
theorem dL_law_1285 : decode cL_law 1285 = .ok (.iaload, 1) := by decide +kernel
theorem dL_law_1286 : decode cL_law 1286 = .ok (.aload_n 0, 1) := by decide +kernel
theorem dL_law_1287 : decode cL_law 1287 = .ok (.iload_n 3, 1) := by decide +kernel
theorem dL_law_1288 : decode cL_law 1288 = .ok (.iconst 3, 1) := by decide +kernel
theorem dL_law_1289 : decode cL_law 1289 = .ok (.iadd, 1) := by decide +kernel
theorem dL_law_1290 : decode cL_law 1290 = .ok (.iaload, 1) := by decide +kernel
theorem dL_law_1291 : decode cL_law 1291 = .ok (.invokevirtual 144, 3) := by decide +kernel
theorem dL_law_1294 : decode cL_law 1294 = .ok (.aload_n 2, 1) := by decide +kernel
theorem dL_law_1295 : decode cL_law 1295 = .ok (.aload_n 0, 1) := by decide +kernel
theorem dL_law_1296 : decode cL_law 1296 = .ok (.iload_n 3, 1) := by decide +kernel
theorem dL_law_1297 : decode cL_law 1297 = .ok (.iconst 1, 1) := by decide +kernel
theorem dL_law_1298 : decode cL_law 1298 = .ok (.iadd, 1) := by decide +kernel
theorem dL_law_1299 : decode cL_law 1299 = .ok (.iaload, 1) := by decide +kernel
theorem dL_law_1300 : decode cL_law 1300 = .ok (.aload_n 0, 1) := by decide +kernel
theorem dL_law_1301 : decode cL_law 1301 = .ok (.iload_n 3, 1) := by decide +kernel
theorem dL_law_1302 : decode cL_law 1302 = .ok (.iconst 2, 1) := by decide +kernel
theorem dL_law_1303 : decode cL_law 1303 = .ok (.iadd, 1) := by decide +kernel
theorem dL_law_1304 : decode cL_law 1304 = .ok (.iaload, 1) := by decide +kernel
theorem dL_law_1305 : decode cL_law 1305 = .ok (.aload_n 0, 1) := by decide +kernel
theorem dL_law_1306 : decode cL_law 1306 = .ok (.iload_n 3, 1) := by decide +kernel
theorem dL_law_1307 : decode cL_law 1307 = .ok (.iconst 3, 1) := by decide +kernel
theorem dL_law_1308 : decode cL_law 1308 = .ok (.iadd, 1) := by decide +kernel
theorem dL_law_1309 : decode cL_law 1309 = .ok (.iaload, 1) := by decide +kernel
theorem dL_law_1310 : decode cL_law 1310 = .ok (.invokevirtual 147, 3) := by decide +kernel
theorem dL_law_1313 : decode cL_law 1313 = .ok (.if_icmp .eq 202, 3) := by decide +kernel
theorem dL_law_1316 : decode cL_law 1316 = .ok (.iconst 0, 1) := by decide +kernel
theorem dL_law_1317 : decode cL_law 1317 = .ok (.ireturn, 1) := by decide +kernel
theorem dL_law_1318 : decode cL_law 1318 = .ok (.aload_n 1, 1) := by decide +kernel
theorem dL_law_1319 : decode cL_law 1319 = .ok (.aload_n 0, 1) := by decide +kernel
theorem dL_law_1320 : decode cL_law 1320 = .ok (.iload_n 3, 1) := by decide +kernel
theorem dL_law_1321 : decode cL_law 1321 = .ok (.iconst 1, 1) := by decide +kernel
theorem dL_law_1322 : decode cL_law 1322 = .ok (.iadd, 1) := by decide +kernel
theorem dL_law_1323 : decode cL_law 1323 = .ok (.iaload, 1) := by decide +kernel
theorem dL_law_1324 : decode cL_law 1324 = .ok (.invokevirtual 148, 3) := by decide +kernel
theorem dL_law_1327 : decode cL_law 1327 = .ok (.aload_n 2, 1) := by decide +kernel
theorem dL_law_1328 : decode cL_law 1328 = .ok (.aload_n 0, 1) := by decide +kernel
theorem dL_law_1329 : decode cL_law 1329 = .ok (.iload_n 3, 1) := by decide +kernel
theorem dL_law_1330 : decode cL_law 1330 = .ok (.iconst 1, 1) := by decide +kernel
theorem dL_law_1331 : decode cL_law 1331 = .ok (.iadd, 1) := by decide +kernel
theorem dL_law_1332 : decode cL_law 1332 = .ok (.iaload, 1) := by decide +kernel
theorem dL_law_1333 : decode cL_law 1333 = .ok (.invokevirtual 151, 3) := by decide +kernel
theorem dL_law_1336 : decode cL_law 1336 = .ok (.if_icmp .eq 179, 3) := by decide +kernel
theorem dL_law_1339 : decode cL_law 1339 = .ok (.iconst 0, 1) := by decide +kernel
theorem dL_law_1340 : decode cL_law 1340 = .ok (.ireturn, 1) := by decide +kernel
theorem dL_law_1341 : decode cL_law 1341 = .ok (.aload_n 1, 1) := by decide +kernel
theorem dL_law_1342 : decode cL_law 1342 = .ok (.invokevirtual 152, 3) := by decide +kernel
theorem dL_law_1345 : decode cL_law 1345 = .ok (.aload_n 2, 1) := by decide +kernel
theorem dL_law_1346 : decode cL_law 1346 = .ok (.invokevirtual 155, 3) := by decide +kernel
theorem dL_law_1349 : decode cL_law 1349 = .ok (.if_icmp .eq 166, 3) := by decide +kernel
theorem dL_law_1352 : decode cL_law 1352 = .ok (.iconst 0, 1) := by decide +kernel
theorem dL_law_1353 : decode cL_law 1353 = .ok (.ireturn, 1) := by decide +kernel
theorem dL_law_1354 : decode cL_law 1354 = .ok (.aload_n 1, 1) := by decide +kernel
theorem dL_law_1355 : decode cL_law 1355 = .ok (.aload_n 0, 1) := by decide +kernel
theorem dL_law_1356 : decode cL_law 1356 = .ok (.iload_n 3, 1) := by decide +kernel
theorem dL_law_1357 : decode cL_law 1357 = .ok (.iconst 1, 1) := by decide +kernel
theorem dL_law_1358 : decode cL_law 1358 = .ok (.iadd, 1) := by decide +kernel
theorem dL_law_1359 : decode cL_law 1359 = .ok (.iaload, 1) := by decide +kernel
theorem dL_law_1360 : decode cL_law 1360 = .ok (.invokevirtual 156, 3) := by decide +kernel
theorem dL_law_1363 : decode cL_law 1363 = .ok (.aload_n 2, 1) := by decide +kernel
theorem dL_law_1364 : decode cL_law 1364 = .ok (.aload_n 0, 1) := by decide +kernel
theorem dL_law_1365 : decode cL_law 1365 = .ok (.iload_n 3, 1) := by decide +kernel
theorem dL_law_1366 : decode cL_law 1366 = .ok (.iconst 1, 1) := by decide +kernel
theorem dL_law_1367 : decode cL_law 1367 = .ok (.iadd, 1) := by decide +kernel
theorem dL_law_1368 : decode cL_law 1368 = .ok (.iaload, 1) := by decide +kernel
theorem dL_law_1369 : decode cL_law 1369 = .ok (.invokevirtual 159, 3) := by decide +kernel
theorem dL_law_1372 : decode cL_law 1372 = .ok (.if_icmp .eq 143, 3) := by decide +kernel
theorem dL_law_1375 : decode cL_law 1375 = .ok (.iconst 0, 1) := by decide +kernel
theorem dL_law_1376 : decode cL_law 1376 = .ok (.ireturn, 1) := by decide +kernel
theorem dL_law_1377 : decode cL_law 1377 = .ok (.aload_n 1, 1) := by decide +kernel
theorem dL_law_1378 : decode cL_law 1378 = .ok (.aload_n 0, 1) := by decide +kernel
theorem dL_law_1379 : decode cL_law 1379 = .ok (.iload_n 3, 1) := by decide +kernel
theorem dL_law_1380 : decode cL_law 1380 = .ok (.iconst 1, 1) := by decide +kernel
theorem dL_law_1381 : decode cL_law 1381 = .ok (.iadd, 1) := by decide +kernel
theorem dL_law_1382 : decode cL_law 1382 = .ok (.iaload, 1) := by decide +kernel
theorem dL_law_1383 : decode cL_law 1383 = .ok (.invokevirtual 160, 3) := by decide +kernel
theorem dL_law_1386 : decode cL_law 1386 = .ok (.aload_n 2, 1) := by decide +kernel
theorem dL_law_1387 : decode cL_law 1387 = .ok (.aload_n 0, 1) := by decide +kernel
theorem dL_law_1388 : decode cL_law 1388 = .ok (.iload_n 3, 1) := by decide +kernel
theorem dL_law_1389 : decode cL_law 1389 = .ok (.iconst 1, 1) := by decide +kernel
theorem dL_law_1390 : decode cL_law 1390 = .ok (.iadd, 1) := by decide +kernel
theorem dL_law_1391 : decode cL_law 1391 = .ok (.iaload, 1) := by decide +kernel
theorem dL_law_1392 : decode cL_law 1392 = .ok (.invokevirtual 163, 3) := by decide +kernel
theorem dL_law_1395 : decode cL_law 1395 = .ok (.if_icmp .eq 120, 3) := by decide +kernel
theorem dL_law_1398 : decode cL_law 1398 = .ok (.iconst 0, 1) := by decide +kernel
theorem dL_law_1399 : decode cL_law 1399 = .ok (.ireturn, 1) := by decide +kernel
theorem dL_law_1400 : decode cL_law 1400 = .ok (.aload_n 1, 1) := by decide +kernel
theorem dL_law_1401 : decode cL_law 1401 = .ok (.aload_n 0, 1) := by decide +kernel
theorem dL_law_1402 : decode cL_law 1402 = .ok (.iload_n 3, 1) := by decide +kernel
theorem dL_law_1403 : decode cL_law 1403 = .ok (.iconst 1, 1) := by decide +kernel
theorem dL_law_1404 : decode cL_law 1404 = .ok (.iadd, 1) := by decide +kernel
theorem dL_law_1405 : decode cL_law 1405 = .ok (.iaload, 1) := by decide +kernel
theorem dL_law_1406 : decode cL_law 1406 = .ok (.aload_n 0, 1) := by decide +kernel
theorem dL_law_1407 : decode cL_law 1407 = .ok (.iload_n 3, 1) := by decide +kernel
theorem dL_law_1408 : decode cL_law 1408 = .ok (.iconst 2, 1) := by decide +kernel
theorem dL_law_1409 : decode cL_law 1409 = .ok (.iadd, 1) := by decide +kernel
theorem dL_law_1410 : decode cL_law 1410 = .ok (.iaload, 1) := by decide +kernel
theorem dL_law_1411 : decode cL_law 1411 = .ok (.aload_n 0, 1) := by decide +kernel
theorem dL_law_1412 : decode cL_law 1412 = .ok (.iload_n 3, 1) := by decide +kernel
theorem dL_law_1413 : decode cL_law 1413 = .ok (.iconst 3, 1) := by decide +kernel
theorem dL_law_1414 : decode cL_law 1414 = .ok (.iadd, 1) := by decide +kernel
theorem dL_law_1415 : decode cL_law 1415 = .ok (.iaload, 1) := by decide +kernel
theorem dL_law_1416 : decode cL_law 1416 = .ok (.invokevirtual 164, 3) := by decide +kernel
theorem dL_law_1419 : decode cL_law 1419 = .ok (.aload_n 2, 1) := by decide +kernel
theorem dL_law_1420 : decode cL_law 1420 = .ok (.aload_n 0, 1) := by decide +kernel
theorem dL_law_1421 : decode cL_law 1421 = .ok (.iload_n 3, 1) := by decide +kernel
theorem dL_law_1422 : decode cL_law 1422 = .ok (.iconst 1, 1) := by decide +kernel
theorem dL_law_1423 : decode cL_law 1423 = .ok (.iadd, 1) := by decide +kernel
theorem dL_law_1424 : decode cL_law 1424 = .ok (.iaload, 1) := by decide +kernel
theorem dL_law_1425 : decode cL_law 1425 = .ok (.aload_n 0, 1) := by decide +kernel
theorem dL_law_1426 : decode cL_law 1426 = .ok (.iload_n 3, 1) := by decide +kernel
theorem dL_law_1427 : decode cL_law 1427 = .ok (.iconst 2, 1) := by decide +kernel
theorem dL_law_1428 : decode cL_law 1428 = .ok (.iadd, 1) := by decide +kernel
theorem dL_law_1429 : decode cL_law 1429 = .ok (.iaload, 1) := by decide +kernel
theorem dL_law_1430 : decode cL_law 1430 = .ok (.aload_n 0, 1) := by decide +kernel
theorem dL_law_1431 : decode cL_law 1431 = .ok (.iload_n 3, 1) := by decide +kernel
theorem dL_law_1432 : decode cL_law 1432 = .ok (.iconst 3, 1) := by decide +kernel
theorem dL_law_1433 : decode cL_law 1433 = .ok (.iadd, 1) := by decide +kernel
theorem dL_law_1434 : decode cL_law 1434 = .ok (.iaload, 1) := by decide +kernel
theorem dL_law_1435 : decode cL_law 1435 = .ok (.invokevirtual 167, 3) := by decide +kernel
theorem dL_law_1438 : decode cL_law 1438 = .ok (.if_icmp .eq 77, 3) := by decide +kernel
theorem dL_law_1441 : decode cL_law 1441 = .ok (.iconst 0, 1) := by decide +kernel
theorem dL_law_1442 : decode cL_law 1442 = .ok (.ireturn, 1) := by decide +kernel
theorem dL_law_1443 : decode cL_law 1443 = .ok (.aload_n 1, 1) := by decide +kernel
theorem dL_law_1444 : decode cL_law 1444 = .ok (.aload_n 0, 1) := by decide +kernel
theorem dL_law_1445 : decode cL_law 1445 = .ok (.iload_n 3, 1) := by decide +kernel
theorem dL_law_1446 : decode cL_law 1446 = .ok (.iconst 1, 1) := by decide +kernel
theorem dL_law_1447 : decode cL_law 1447 = .ok (.iadd, 1) := by decide +kernel
theorem dL_law_1448 : decode cL_law 1448 = .ok (.iaload, 1) := by decide +kernel
theorem dL_law_1449 : decode cL_law 1449 = .ok (.invokevirtual 168, 3) := by decide +kernel
theorem dL_law_1452 : decode cL_law 1452 = .ok (.aload_n 2, 1) := by decide +kernel
theorem dL_law_1453 : decode cL_law 1453 = .ok (.aload_n 0, 1) := by decide +kernel
theorem dL_law_1454 : decode cL_law 1454 = .ok (.iload_n 3, 1) := by decide +kernel
theorem dL_law_1455 : decode cL_law 1455 = .ok (.iconst 1, 1) := by decide +kernel
theorem dL_law_1456 : decode cL_law 1456 = .ok (.iadd, 1) := by decide +kernel
theorem dL_law_1457 : decode cL_law 1457 = .ok (.iaload, 1) := by decide +kernel
theorem dL_law_1458 : decode cL_law 1458 = .ok (.invokevirtual 171, 3) := by decide +kernel
theorem dL_law_1461 : decode cL_law 1461 = .ok (.if_icmp .eq 54, 3) := by decide +kernel
theorem dL_law_1464 : decode cL_law 1464 = .ok (.iconst 0, 1) := by decide +kernel
theorem dL_law_1465 : decode cL_law 1465 = .ok (.ireturn, 1) := by decide +kernel
theorem dL_law_1466 : decode cL_law 1466 = .ok (.aload_n 1, 1) := by decide +kernel
theorem dL_law_1467 : decode cL_law 1467 = .ok (.invokevirtual 172, 3) := by decide +kernel
theorem dL_law_1470 : decode cL_law 1470 = .ok (.aload_n 2, 1) := by decide +kernel
theorem dL_law_1471 : decode cL_law 1471 = .ok (.invokevirtual 175, 3) := by decide +kernel
theorem dL_law_1474 : decode cL_law 1474 = .ok (.if_icmp .eq 41, 3) := by decide +kernel
theorem dL_law_1477 : decode cL_law 1477 = .ok (.iconst 0, 1) := by decide +kernel
theorem dL_law_1478 : decode cL_law 1478 = .ok (.ireturn, 1) := by decide +kernel
theorem dL_law_1479 : decode cL_law 1479 = .ok (.aload_n 1, 1) := by decide +kernel
theorem dL_law_1480 : decode cL_law 1480 = .ok (.invokevirtual 176, 3) := by decide +kernel
theorem dL_law_1483 : decode cL_law 1483 = .ok (.aload_n 2, 1) := by decide +kernel
theorem dL_law_1484 : decode cL_law 1484 = .ok (.invokevirtual 179, 3) := by decide +kernel
theorem dL_law_1487 : decode cL_law 1487 = .ok (.if_icmp .eq 28, 3) := by decide +kernel
theorem dL_law_1490 : decode cL_law 1490 = .ok (.iconst 0, 1) := by decide +kernel
theorem dL_law_1491 : decode cL_law 1491 = .ok (.ireturn, 1) := by decide +kernel
theorem dL_law_1492 : decode cL_law 1492 = .ok (.aload_n 1, 1) := by decide +kernel
theorem dL_law_1493 : decode cL_law 1493 = .ok (.aload_n 0, 1) := by decide +kernel
theorem dL_law_1494 : decode cL_law 1494 = .ok (.iload_n 3, 1) := by decide +kernel
theorem dL_law_1495 : decode cL_law 1495 = .ok (.iconst 1, 1) := by decide +kernel
theorem dL_law_1496 : decode cL_law 1496 = .ok (.iadd, 1) := by decide +kernel
theorem dL_law_1497 : decode cL_law 1497 = .ok (.iaload, 1) := by decide +kernel
theorem dL_law_1498 : decode cL_law 1498 = .ok (.invokevirtual 180, 3) := by decide +kernel
theorem dL_law_1501 : decode cL_law 1501 = .ok (.aload_n 2, 1) := by decide +kernel
theorem dL_law_1502 : decode cL_law 1502 = .ok (.aload_n 0, 1) := by decide +kernel
theorem dL_law_1503 : decode cL_law 1503 = .ok (.iload_n 3, 1) := by decide +kernel
theorem dL_law_1504 : decode cL_law 1504 = .ok (.iconst 1, 1) := by decide +kernel
theorem dL_law_1505 : decode cL_law 1505 = .ok (.iadd, 1) := by decide +kernel
theorem dL_law_1506 : decode cL_law 1506 = .ok (.iaload, 1) := by decide +kernel
theorem dL_law_1507 : decode cL_law 1507 = .ok (.invokevirtual 183, 3) := by decide +kernel
theorem dL_law_1510 : decode cL_law 1510 = .ok (.if_icmp .eq 5, 3) := by decide +kernel
theorem dL_law_1513 : decode cL_law 1513 = .ok (.iconst 0, 1) := by decide +kernel
theorem dL_law_1514 : decode cL_law 1514 = .ok (.ireturn, 1) := by decide +kernel
theorem dL_law_1515 : decode cL_law 1515 = .ok (.iinc 3 6, 3) := by decide +kernel
theorem dL_law_1518 : decode cL_law 1518 = .ok (.goto (-1500), 3) := by decide +kernel
theorem dL_law_1521 : decode cL_law 1521 = .ok (.iconst 1, 1) := by decide +kernel
theorem dL_law_1522 : decode cL_law 1522 = .ok (.ireturn, 1) := by decide +kernel

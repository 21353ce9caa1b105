theorem dX1_stepAt_0 : decode cX1_stepAt 0 = .ok (.iload_n 3, 1) := by decide +kernel
theorem dX1_stepAt_1 : decode cX1_stepAt 1 = .ok (.ifCond .ne 5, 3) := by decide +kernel
theorem dX1_stepAt_4 : decode cX1_stepAt 4 = .ok (.iconst 2, 1) := by decide +kernel
theorem dX1_stepAt_5 : decode cX1_stepAt 5 = .ok (.ireturn, 1) := by decide +kernel
theorem dX1_stepAt_6 : decode cX1_stepAt 6 = .ok (.iload 4, 2) := by decide +kernel
theorem dX1_stepAt_8 : decode cX1_stepAt 8 = .ok (.ifCond .ne 5, 3) := by decide +kernel
theorem dX1_stepAt_11 : decode cX1_stepAt 11 = .ok (.iconst 3, 1) := by decide +kernel
theorem dX1_stepAt_12 : decode cX1_stepAt 12 = .ok (.ireturn, 1) := by decide +kernel
theorem dX1_stepAt_13 : decode cX1_stepAt 13 = .ok (.aload_n 0, 1) := by decide +kernel
theorem dX1_stepAt_14 : decode cX1_stepAt 14 = .ok (.getfield 11, 3) := by decide +kernel
theorem dX1_stepAt_17 : decode cX1_stepAt 17 = .ok (.iload_n 3, 1) := by decide +kernel
theorem dX1_stepAt_18 : decode cX1_stepAt 18 = .ok (.aaload, 1) := by decide +kernel
theorem dX1_stepAt_19 : decode cX1_stepAt 19 = .ok (.iload 4, 2) := by decide +kernel
theorem dX1_stepAt_21 : decode cX1_stepAt 21 = .ok (.iaload, 1) := by decide +kernel
theorem dX1_stepAt_22 : decode cX1_stepAt 22 = .ok (.aload_n 0, 1) := by decide +kernel
theorem dX1_stepAt_23 : decode cX1_stepAt 23 = .ok (.getfield 11, 3) := by decide +kernel
theorem dX1_stepAt_26 : decode cX1_stepAt 26 = .ok (.iload_n 3, 1) := by decide +kernel
theorem dX1_stepAt_27 : decode cX1_stepAt 27 = .ok (.iconst 1, 1) := by decide +kernel
theorem dX1_stepAt_28 : decode cX1_stepAt 28 = .ok (.isub, 1) := by decide +kernel
theorem dX1_stepAt_29 : decode cX1_stepAt 29 = .ok (.aaload, 1) := by decide +kernel
theorem dX1_stepAt_30 : decode cX1_stepAt 30 = .ok (.iload 4, 2) := by decide +kernel
theorem dX1_stepAt_32 : decode cX1_stepAt 32 = .ok (.iconst 1, 1) := by decide +kernel
theorem dX1_stepAt_33 : decode cX1_stepAt 33 = .ok (.isub, 1) := by decide +kernel
theorem dX1_stepAt_34 : decode cX1_stepAt 34 = .ok (.iaload, 1) := by decide +kernel
theorem dX1_stepAt_35 : decode cX1_stepAt 35 = .ok (.aload_n 1, 1) := by decide +kernel
theorem dX1_stepAt_36 : decode cX1_stepAt 36 = .ok (.aload_n 2, 1) := by decide +kernel
theorem dX1_stepAt_37 : decode cX1_stepAt 37 = .ok (.aload_n 1, 1) := by decide +kernel
theorem dX1_stepAt_38 : decode cX1_stepAt 38 = .ok (.getfield 57, 3) := by decide +kernel
theorem dX1_stepAt_41 : decode cX1_stepAt 41 = .ok (.iload_n 3, 1) := by decide +kernel
theorem dX1_stepAt_42 : decode cX1_stepAt 42 = .ok (.iload 4, 2) := by decide +kernel
theorem dX1_stepAt_44 : decode cX1_stepAt 44 = .ok (.invokestatic 100, 3) := by decide +kernel
theorem dX1_stepAt_47 : decode cX1_stepAt 47 = .ok (.iadd, 1) := by decide +kernel
theorem dX1_stepAt_48 : decode cX1_stepAt 48 = .ok (.if_icmp .ne 5, 3) := by decide +kernel
theorem dX1_stepAt_51 : decode cX1_stepAt 51 = .ok (.iconst 1, 1) := by decide +kernel
theorem dX1_stepAt_52 : decode cX1_stepAt 52 = .ok (.ireturn, 1) := by decide +kernel
theorem dX1_stepAt_53 : decode cX1_stepAt 53 = .ok (.aload_n 0, 1) := by decide +kernel
theorem dX1_stepAt_54 : decode cX1_stepAt 54 = .ok (.getfield 11, 3) := by decide +kernel
theorem dX1_stepAt_57 : decode cX1_stepAt 57 = .ok (.iload_n 3, 1) := by decide +kernel
theorem dX1_stepAt_58 : decode cX1_stepAt 58 = .ok (.aaload, 1) := by decide +kernel
theorem dX1_stepAt_59 : decode cX1_stepAt 59 = .ok (.iload 4, 2) := by decide +kernel
theorem dX1_stepAt_61 : decode cX1_stepAt 61 = .ok (.iaload, 1) := by decide +kernel
theorem dX1_stepAt_62 : decode cX1_stepAt 62 = .ok (.aload_n 0, 1) := by decide +kernel
theorem dX1_stepAt_63 : decode cX1_stepAt 63 = .ok (.getfield 11, 3) := by decide +kernel
theorem dX1_stepAt_66 : decode cX1_stepAt 66 = .ok (.iload_n 3, 1) := by decide +kernel
theorem dX1_stepAt_67 : decode cX1_stepAt 67 = .ok (.aaload, 1) := by decide +kernel
theorem dX1_stepAt_68 : decode cX1_stepAt 68 = .ok (.iload 4, 2) := by decide +kernel
theorem dX1_stepAt_70 : decode cX1_stepAt 70 = .ok (.iconst 1, 1) := by decide +kernel
theorem dX1_stepAt_71 : decode cX1_stepAt 71 = .ok (.isub, 1) := by decide +kernel
theorem dX1_stepAt_72 : decode cX1_stepAt 72 = .ok (.iaload, 1) := by decide +kernel
theorem dX1_stepAt_73 : decode cX1_stepAt 73 = .ok (.iconst 1, 1) := by decide +kernel
theorem dX1_stepAt_74 : decode cX1_stepAt 74 = .ok (.iadd, 1) := by decide +kernel
theorem dX1_stepAt_75 : decode cX1_stepAt 75 = .ok (.if_icmp .ne 7, 3) := by decide +kernel
theorem dX1_stepAt_78 : decode cX1_stepAt 78 = .ok (.iconst 2, 1) := by decide +kernel
theorem dX1_stepAt_79 : decode cX1_stepAt 79 = .ok (.goto 4, 3) := by decide +kernel
theorem dX1_stepAt_82 : decode cX1_stepAt 82 = .ok (.iconst 3, 1) := by decide +kernel
theorem dX1_stepAt_83 : decode cX1_stepAt 83 = .ok (.ireturn, 1) := by decide +kernel
theorem dX1_writeScript_0 : decode cX1_writeScript 0 = .ok (.aload_n 0, 1) := by decide +kernel
theorem dX1_writeScript_1 : decode cX1_writeScript 1 = .ok (.aload_n 1, 1) := by decide +kernel
theorem dX1_writeScript_2 : decode cX1_writeScript 2 = .ok (.aload_n 2, 1) := by decide +kernel
theorem dX1_writeScript_3 : decode cX1_writeScript 3 = .ok (.aload_n 1, 1) := by decide +kernel
theorem dX1_writeScript_4 : decode cX1_writeScript 4 = .ok (.getfield 57, 3) := by decide +kernel
theorem dX1_writeScript_7 : decode cX1_writeScript 7 = .ok (.invokevirtual 72, 3) := by decide +kernel
theorem dX1_writeScript_10 : decode cX1_writeScript 10 = .ok (.pop, 1) := by decide +kernel
theorem dX1_writeScript_11 : decode cX1_writeScript 11 = .ok (.aload_n 1, 1) := by decide +kernel
theorem dX1_writeScript_12 : decode cX1_writeScript 12 = .ok (.getfield 76, 3) := by decide +kernel
theorem dX1_writeScript_15 : decode cX1_writeScript 15 = .ok (.istore_n 3, 1) := by decide +kernel
theorem dX1_writeScript_16 : decode cX1_writeScript 16 = .ok (.aload_n 1, 1) := by decide +kernel
theorem dX1_writeScript_17 : decode cX1_writeScript 17 = .ok (.getfield 58, 3) := by decide +kernel
theorem dX1_writeScript_20 : decode cX1_writeScript 20 = .ok (.aload_n 1, 1) := by decide +kernel
theorem dX1_writeScript_21 : decode cX1_writeScript 21 = .ok (.getfield 57, 3) := by decide +kernel
theorem dX1_writeScript_24 : decode cX1_writeScript 24 = .ok (.isub, 1) := by decide +kernel
theorem dX1_writeScript_25 : decode cX1_writeScript 25 = .ok (.istore 4, 2) := by decide +kernel
theorem dX1_writeScript_27 : decode cX1_writeScript 27 = .ok (.aload_n 1, 1) := by decide +kernel
theorem dX1_writeScript_28 : decode cX1_writeScript 28 = .ok (.getfield 54, 3) := by decide +kernel
theorem dX1_writeScript_31 : decode cX1_writeScript 31 = .ok (.bipush 19, 2) := by decide +kernel
theorem dX1_writeScript_33 : decode cX1_writeScript 33 = .ok (.if_icmp .ge 65, 3) := by decide +kernel
theorem dX1_writeScript_36 : decode cX1_writeScript 36 = .ok (.iload_n 3, 1) := by decide +kernel
theorem dX1_writeScript_37 : decode cX1_writeScript 37 = .ok (.ifCond .gt 8, 3) := by decide +kernel
theorem dX1_writeScript_40 : decode cX1_writeScript 40 = .ok (.iload 4, 2) := by decide +kernel
theorem dX1_writeScript_42 : decode cX1_writeScript 42 = .ok (.ifCond .le 56, 3) := by decide +kernel
theorem dX1_writeScript_45 : decode cX1_writeScript 45 = .ok (.aload_n 0, 1) := by decide +kernel
theorem dX1_writeScript_46 : decode cX1_writeScript 46 = .ok (.aload_n 1, 1) := by decide +kernel
theorem dX1_writeScript_47 : decode cX1_writeScript 47 = .ok (.aload_n 2, 1) := by decide +kernel
theorem dX1_writeScript_48 : decode cX1_writeScript 48 = .ok (.iload_n 3, 1) := by decide +kernel
theorem dX1_writeScript_49 : decode cX1_writeScript 49 = .ok (.iload 4, 2) := by decide +kernel
theorem dX1_writeScript_51 : decode cX1_writeScript 51 = .ok (.invokevirtual 110, 3) := by decide +kernel
theorem dX1_writeScript_54 : decode cX1_writeScript 54 = .ok (.istore 5, 2) := by decide +kernel
theorem dX1_writeScript_56 : decode cX1_writeScript 56 = .ok (.aload_n 1, 1) := by decide +kernel
theorem dX1_writeScript_57 : decode cX1_writeScript 57 = .ok (.getfield 113, 3) := by decide +kernel
theorem dX1_writeScript_60 : decode cX1_writeScript 60 = .ok (.aload_n 1, 1) := by decide +kernel
theorem dX1_writeScript_61 : decode cX1_writeScript 61 = .ok (.getfield 54, 3) := by decide +kernel
theorem dX1_writeScript_64 : decode cX1_writeScript 64 = .ok (.iload 5, 2) := by decide +kernel
theorem dX1_writeScript_66 : decode cX1_writeScript 66 = .ok (.iastore, 1) := by decide +kernel
theorem dX1_writeScript_67 : decode cX1_writeScript 67 = .ok (.aload_n 1, 1) := by decide +kernel
theorem dX1_writeScript_68 : decode cX1_writeScript 68 = .ok (.dup, 1) := by decide +kernel
theorem dX1_writeScript_69 : decode cX1_writeScript 69 = .ok (.getfield 54, 3) := by decide +kernel
theorem dX1_writeScript_72 : decode cX1_writeScript 72 = .ok (.iconst 1, 1) := by decide +kernel
theorem dX1_writeScript_73 : decode cX1_writeScript 73 = .ok (.iadd, 1) := by decide +kernel
theorem dX1_writeScript_74 : decode cX1_writeScript 74 = .ok (.putfield 54, 3) := by decide +kernel
theorem dX1_writeScript_77 : decode cX1_writeScript 77 = .ok (.iload 5, 2) := by decide +kernel
theorem dX1_writeScript_79 : decode cX1_writeScript 79 = .ok (.iconst 2, 1) := by decide +kernel
theorem dX1_writeScript_80 : decode cX1_writeScript 80 = .ok (.if_icmp .eq 6, 3) := by decide +kernel
theorem dX1_writeScript_83 : decode cX1_writeScript 83 = .ok (.iinc 3 (-1), 3) := by decide +kernel
theorem dX1_writeScript_86 : decode cX1_writeScript 86 = .ok (.iload 5, 2) := by decide +kernel
theorem dX1_writeScript_88 : decode cX1_writeScript 88 = .ok (.iconst 3, 1) := by decide +kernel
theorem dX1_writeScript_89 : decode cX1_writeScript 89 = .ok (.if_icmp .eq 6, 3) := by decide +kernel
theorem dX1_writeScript_92 : decode cX1_writeScript 92 = .ok (.iinc 4 (-1), 3) := by decide +kernel
theorem dX1_writeScript_95 : decode cX1_writeScript 95 = .ok (.goto (-68), 3) := by decide +kernel
theorem dX1_writeScript_98 : decode cX1_writeScript 98 = .ok (.return_, 1) := by decide +kernel
theorem dX2_addAllele_0 : decode cX2_addAllele 0 = .ok (.aload_n 0, 1) := by decide +kernel
theorem dX2_addAllele_1 : decode cX2_addAllele 1 = .ok (.getfield 11, 3) := by decide +kernel
theorem dX2_addAllele_4 : decode cX2_addAllele 4 = .ok (.aload_n 0, 1) := by decide +kernel
theorem dX2_addAllele_5 : decode cX2_addAllele 5 = .ok (.getfield 18, 3) := by decide +kernel
theorem dX2_addAllele_8 : decode cX2_addAllele 8 = .ok (.iload_n 2, 1) := by decide +kernel
theorem dX2_addAllele_9 : decode cX2_addAllele 9 = .ok (.iastore, 1) := by decide +kernel
theorem dX2_addAllele_10 : decode cX2_addAllele 10 = .ok (.aload_n 0, 1) := by decide +kernel
theorem dX2_addAllele_11 : decode cX2_addAllele 11 = .ok (.getfield 15, 3) := by decide +kernel
theorem dX2_addAllele_14 : decode cX2_addAllele 14 = .ok (.aload_n 0, 1) := by decide +kernel
theorem dX2_addAllele_15 : decode cX2_addAllele 15 = .ok (.getfield 18, 3) := by decide +kernel
theorem dX2_addAllele_18 : decode cX2_addAllele 18 = .ok (.aload_n 1, 1) := by decide +kernel
theorem dX2_addAllele_19 : decode cX2_addAllele 19 = .ok (.iload_n 2, 1) := by decide +kernel
theorem dX2_addAllele_20 : decode cX2_addAllele 20 = .ok (.invokevirtual 57, 3) := by decide +kernel
theorem dX2_addAllele_23 : decode cX2_addAllele 23 = .ok (.iastore, 1) := by decide +kernel
theorem dX2_addAllele_24 : decode cX2_addAllele 24 = .ok (.aload_n 0, 1) := by decide +kernel
theorem dX2_addAllele_25 : decode cX2_addAllele 25 = .ok (.dup, 1) := by decide +kernel
theorem dX2_addAllele_26 : decode cX2_addAllele 26 = .ok (.getfield 18, 3) := by decide +kernel
theorem dX2_addAllele_29 : decode cX2_addAllele 29 = .ok (.iconst 1, 1) := by decide +kernel
theorem dX2_addAllele_30 : decode cX2_addAllele 30 = .ok (.iadd, 1) := by decide +kernel
theorem dX2_addAllele_31 : decode cX2_addAllele 31 = .ok (.putfield 18, 3) := by decide +kernel
theorem dX2_addAllele_34 : decode cX2_addAllele 34 = .ok (.return_, 1) := by decide +kernel
theorem dX2_addMostSeen_0 : decode cX2_addMostSeen 0 = .ok (.iconst (-1), 1) := by decide +kernel
theorem dX2_addMostSeen_1 : decode cX2_addMostSeen 1 = .ok (.istore_n 2, 1) := by decide +kernel
theorem dX2_addMostSeen_2 : decode cX2_addMostSeen 2 = .ok (.iconst 0, 1) := by decide +kernel
theorem dX2_addMostSeen_3 : decode cX2_addMostSeen 3 = .ok (.istore_n 3, 1) := by decide +kernel
theorem dX2_addMostSeen_4 : decode cX2_addMostSeen 4 = .ok (.iconst 0, 1) := by decide +kernel
theorem dX2_addMostSeen_5 : decode cX2_addMostSeen 5 = .ok (.istore 4, 2) := by decide +kernel
theorem dX2_addMostSeen_7 : decode cX2_addMostSeen 7 = .ok (.iload 4, 2) := by decide +kernel
theorem dX2_addMostSeen_9 : decode cX2_addMostSeen 9 = .ok (.aload_n 1, 1) := by decide +kernel
theorem dX2_addMostSeen_10 : decode cX2_addMostSeen 10 = .ok (.getfield 37, 3) := by decide +kernel
theorem dX2_addMostSeen_13 : decode cX2_addMostSeen 13 = .ok (.if_icmp .ge 59, 3) := by decide +kernel
theorem dX2_addMostSeen_16 : decode cX2_addMostSeen 16 = .ok (.aload_n 1, 1) := by decide +kernel
theorem dX2_addMostSeen_17 : decode cX2_addMostSeen 17 = .ok (.getfield 61, 3) := by decide +kernel
theorem dX2_addMostSeen_20 : decode cX2_addMostSeen 20 = .ok (.iload 4, 2) := by decide +kernel
theorem dX2_addMostSeen_22 : decode cX2_addMostSeen 22 = .ok (.iaload, 1) := by decide +kernel
theorem dX2_addMostSeen_23 : decode cX2_addMostSeen 23 = .ok (.istore 5, 2) := by decide +kernel
theorem dX2_addMostSeen_25 : decode cX2_addMostSeen 25 = .ok (.aload_n 1, 1) := by decide +kernel
theorem dX2_addMostSeen_26 : decode cX2_addMostSeen 26 = .ok (.iload 5, 2) := by decide +kernel
theorem dX2_addMostSeen_28 : decode cX2_addMostSeen 28 = .ok (.invokevirtual 57, 3) := by decide +kernel
theorem dX2_addMostSeen_31 : decode cX2_addMostSeen 31 = .ok (.istore 6, 2) := by decide +kernel
theorem dX2_addMostSeen_33 : decode cX2_addMostSeen 33 = .ok (.aload_n 0, 1) := by decide +kernel
theorem dX2_addMostSeen_34 : decode cX2_addMostSeen 34 = .ok (.iload 5, 2) := by decide +kernel
theorem dX2_addMostSeen_36 : decode cX2_addMostSeen 36 = .ok (.invokevirtual 64, 3) := by decide +kernel
theorem dX2_addMostSeen_39 : decode cX2_addMostSeen 39 = .ok (.ifCond .ne 27, 3) := by decide +kernel
theorem dX2_addMostSeen_42 : decode cX2_addMostSeen 42 = .ok (.iload 6, 2) := by decide +kernel
theorem dX2_addMostSeen_44 : decode cX2_addMostSeen 44 = .ok (.iload_n 3, 1) := by decide +kernel
theorem dX2_addMostSeen_45 : decode cX2_addMostSeen 45 = .ok (.if_icmp .gt 15, 3) := by decide +kernel
theorem dX2_addMostSeen_48 : decode cX2_addMostSeen 48 = .ok (.iload 6, 2) := by decide +kernel
theorem dX2_addMostSeen_50 : decode cX2_addMostSeen 50 = .ok (.iload_n 3, 1) := by decide +kernel
theorem dX2_addMostSeen_51 : decode cX2_addMostSeen 51 = .ok (.if_icmp .ne 15, 3) := by decide +kernel
theorem dX2_addMostSeen_54 : decode cX2_addMostSeen 54 = .ok (.iload 5, 2) := by decide +kernel
theorem dX2_addMostSeen_56 : decode cX2_addMostSeen 56 = .ok (.iload_n 2, 1) := by decide +kernel
theorem dX2_addMostSeen_57 : decode cX2_addMostSeen 57 = .ok (.if_icmp .ge 9, 3) := by decide +kernel
theorem dX2_addMostSeen_60 : decode cX2_addMostSeen 60 = .ok (.iload 5, 2) := by decide +kernel
theorem dX2_addMostSeen_62 : decode cX2_addMostSeen 62 = .ok (.istore_n 2, 1) := by decide +kernel
theorem dX2_addMostSeen_63 : decode cX2_addMostSeen 63 = .ok (.iload 6, 2) := by decide +kernel
theorem dX2_addMostSeen_65 : decode cX2_addMostSeen 65 = .ok (.istore_n 3, 1) := by decide +kernel
theorem dX2_addMostSeen_66 : decode cX2_addMostSeen 66 = .ok (.iinc 4 1, 3) := by decide +kernel
theorem dX2_addMostSeen_69 : decode cX2_addMostSeen 69 = .ok (.goto (-62), 3) := by decide +kernel
theorem dX2_addMostSeen_72 : decode cX2_addMostSeen 72 = .ok (.iload_n 2, 1) := by decide +kernel
theorem dX2_addMostSeen_73 : decode cX2_addMostSeen 73 = .ok (.iconst (-1), 1) := by decide +kernel
theorem dX2_addMostSeen_74 : decode cX2_addMostSeen 74 = .ok (.if_icmp .eq 9, 3) := by decide +kernel
theorem dX2_addMostSeen_77 : decode cX2_addMostSeen 77 = .ok (.aload_n 0, 1) := by decide +kernel
theorem dX2_addMostSeen_78 : decode cX2_addMostSeen 78 = .ok (.aload_n 1, 1) := by decide +kernel
theorem dX2_addMostSeen_79 : decode cX2_addMostSeen 79 = .ok (.iload_n 2, 1) := by decide +kernel
theorem dX2_addMostSeen_80 : decode cX2_addMostSeen 80 = .ok (.invokevirtual 42, 3) := by decide +kernel
theorem dX2_addMostSeen_83 : decode cX2_addMostSeen 83 = .ok (.return_, 1) := by decide +kernel
theorem dX2_costOfPair_0 : decode cX2_costOfPair 0 = .ok (.iload_n 0, 1) := by decide +kernel
theorem dX2_costOfPair_1 : decode cX2_costOfPair 1 = .ok (.ifCond .ne 14, 3) := by decide +kernel
theorem dX2_costOfPair_4 : decode cX2_costOfPair 4 = .ok (.iload_n 1, 1) := by decide +kernel
theorem dX2_costOfPair_5 : decode cX2_costOfPair 5 = .ok (.ifCond .ne 7, 3) := by decide +kernel
theorem dX2_costOfPair_8 : decode cX2_costOfPair 8 = .ok (.iconst 0, 1) := by decide +kernel
theorem dX2_costOfPair_9 : decode cX2_costOfPair 9 = .ok (.goto 5, 3) := by decide +kernel
theorem dX2_costOfPair_12 : decode cX2_costOfPair 12 = .ok (.bipush 20, 2) := by decide +kernel
theorem dX2_costOfPair_14 : decode cX2_costOfPair 14 = .ok (.ireturn, 1) := by decide +kernel
theorem dX2_costOfPair_15 : decode cX2_costOfPair 15 = .ok (.iload_n 0, 1) := by decide +kernel
theorem dX2_costOfPair_16 : decode cX2_costOfPair 16 = .ok (.iload_n 1, 1) := by decide +kernel
theorem dX2_costOfPair_17 : decode cX2_costOfPair 17 = .ok (.if_icmp .ne 8, 3) := by decide +kernel
theorem dX2_costOfPair_20 : decode cX2_costOfPair 20 = .ok (.bipush 30, 2) := by decide +kernel
theorem dX2_costOfPair_22 : decode cX2_costOfPair 22 = .ok (.goto 5, 3) := by decide +kernel
theorem dX2_costOfPair_25 : decode cX2_costOfPair 25 = .ok (.bipush 40, 2) := by decide +kernel
theorem dX2_costOfPair_27 : decode cX2_costOfPair 27 = .ok (.ireturn, 1) := by decide +kernel
theorem dX2_differs_0 : decode cX2_differs 0 = .ok (.aload_n 0, 1) := by decide +kernel
theorem dX2_differs_1 : decode cX2_differs 1 = .ok (.getfield 31, 3) := by decide +kernel
theorem dX2_differs_4 : decode cX2_differs 4 = .ok (.ifCond .eq 7, 3) := by decide +kernel
theorem dX2_differs_7 : decode cX2_differs 7 = .ok (.iconst 1, 1) := by decide +kernel
theorem dX2_differs_8 : decode cX2_differs 8 = .ok (.goto 4, 3) := by decide +kernel
theorem dX2_differs_11 : decode cX2_differs 11 = .ok (.iconst 0, 1) := by decide +kernel
theorem dX2_differs_12 : decode cX2_differs 12 = .ok (.ireturn, 1) := by decide +kernel
theorem dX2_excess_0 : decode cX2_excess 0 = .ok (.aload_n 0, 1) := by decide +kernel
theorem dX2_excess_1 : decode cX2_excess 1 = .ok (.getfield 25, 3) := by decide +kernel
theorem dX2_excess_4 : decode cX2_excess 4 = .ok (.iload_n 1, 1) := by decide +kernel
theorem dX2_excess_5 : decode cX2_excess 5 = .ok (.iaload, 1) := by decide +kernel
theorem dX2_excess_6 : decode cX2_excess 6 = .ok (.aload_n 0, 1) := by decide +kernel
theorem dX2_excess_7 : decode cX2_excess 7 = .ok (.getfield 25, 3) := by decide +kernel
theorem dX2_excess_10 : decode cX2_excess 10 = .ok (.aload_n 0, 1) := by decide +kernel
theorem dX2_excess_11 : decode cX2_excess 11 = .ok (.getfield 31, 3) := by decide +kernel
theorem dX2_excess_14 : decode cX2_excess 14 = .ok (.iaload, 1) := by decide +kernel
theorem dX2_excess_15 : decode cX2_excess 15 = .ok (.isub, 1) := by decide +kernel
theorem dX2_excess_16 : decode cX2_excess 16 = .ok (.ireturn, 1) := by decide +kernel
theorem dX2_isAllele_0 : decode cX2_isAllele 0 = .ok (.iconst 0, 1) := by decide +kernel
theorem dX2_isAllele_1 : decode cX2_isAllele 1 = .ok (.istore_n 2, 1) := by decide +kernel
theorem dX2_isAllele_2 : decode cX2_isAllele 2 = .ok (.iload_n 2, 1) := by decide +kernel
theorem dX2_isAllele_3 : decode cX2_isAllele 3 = .ok (.aload_n 0, 1) := by decide +kernel
theorem dX2_isAllele_4 : decode cX2_isAllele 4 = .ok (.getfield 18, 3) := by decide +kernel
theorem dX2_isAllele_7 : decode cX2_isAllele 7 = .ok (.if_icmp .ge 21, 3) := by decide +kernel
theorem dX2_isAllele_10 : decode cX2_isAllele 10 = .ok (.aload_n 0, 1) := by decide +kernel
theorem dX2_isAllele_11 : decode cX2_isAllele 11 = .ok (.getfield 11, 3) := by decide +kernel
theorem dX2_isAllele_14 : decode cX2_isAllele 14 = .ok (.iload_n 2, 1) := by decide +kernel
theorem dX2_isAllele_15 : decode cX2_isAllele 15 = .ok (.iaload, 1) := by decide +kernel
theorem dX2_isAllele_16 : decode cX2_isAllele 16 = .ok (.iload_n 1, 1) := by decide +kernel
theorem dX2_isAllele_17 : decode cX2_isAllele 17 = .ok (.if_icmp .ne 5, 3) := by decide +kernel
theorem dX2_isAllele_20 : decode cX2_isAllele 20 = .ok (.iconst 1, 1) := by decide +kernel
theorem dX2_isAllele_21 : decode cX2_isAllele 21 = .ok (.ireturn, 1) := by decide +kernel
theorem dX2_isAllele_22 : decode cX2_isAllele 22 = .ok (.iinc 2 1, 3) := by decide +kernel
theorem dX2_isAllele_25 : decode cX2_isAllele 25 = .ok (.goto (-23), 3) := by decide +kernel
theorem dX2_isAllele_28 : decode cX2_isAllele 28 = .ok (.iconst 0, 1) := by decide +kernel
theorem dX2_isAllele_29 : decode cX2_isAllele 29 = .ok (.ireturn, 1) := by decide +kernel
theorem dX2_penalty_0 : decode cX2_penalty 0 = .ok (.iload_n 2, 1) := by decide +kernel
theorem dX2_penalty_1 : decode cX2_penalty 1 = .ok (.iload_n 3, 1) := by decide +kernel
theorem dX2_penalty_2 : decode cX2_penalty 2 = .ok (.invokestatic 68, 3) := by decide +kernel
theorem dX2_penalty_5 : decode cX2_penalty 5 = .ok (.istore 4, 2) := by decide +kernel
theorem dX2_penalty_7 : decode cX2_penalty 7 = .ok (.iconst 0, 1) := by decide +kernel
theorem dX2_penalty_8 : decode cX2_penalty 8 = .ok (.istore 5, 2) := by decide +kernel
theorem dX2_penalty_10 : decode cX2_penalty 10 = .ok (.iload 5, 2) := by decide +kernel
theorem dX2_penalty_12 : decode cX2_penalty 12 = .ok (.aload_n 1, 1) := by decide +kernel
theorem dX2_penalty_13 : decode cX2_penalty 13 = .ok (.getfield 37, 3) := by decide +kernel
theorem dX2_penalty_16 : decode cX2_penalty 16 = .ok (.if_icmp .ge 85, 3) := by decide +kernel
theorem dX2_penalty_19 : decode cX2_penalty 19 = .ok (.aload_n 1, 1) := by decide +kernel
theorem dX2_penalty_20 : decode cX2_penalty 20 = .ok (.getfield 61, 3) := by decide +kernel
theorem dX2_penalty_23 : decode cX2_penalty 23 = .ok (.iload 5, 2) := by decide +kernel
theorem dX2_penalty_25 : decode cX2_penalty 25 = .ok (.iaload, 1) := by decide +kernel
theorem dX2_penalty_26 : decode cX2_penalty 26 = .ok (.aload_n 0, 1) := by decide +kernel
theorem dX2_penalty_27 : decode cX2_penalty 27 = .ok (.getfield 11, 3) := by decide +kernel
theorem dX2_penalty_30 : decode cX2_penalty 30 = .ok (.iload_n 2, 1) := by decide +kernel
theorem dX2_penalty_31 : decode cX2_penalty 31 = .ok (.iaload, 1) := by decide +kernel
theorem dX2_penalty_32 : decode cX2_penalty 32 = .ok (.if_icmp .ne 7, 3) := by decide +kernel
theorem dX2_penalty_35 : decode cX2_penalty 35 = .ok (.iconst 1, 1) := by decide +kernel
theorem dX2_penalty_36 : decode cX2_penalty 36 = .ok (.goto 4, 3) := by decide +kernel
theorem dX2_penalty_39 : decode cX2_penalty 39 = .ok (.iconst 0, 1) := by decide +kernel
theorem dX2_penalty_40 : decode cX2_penalty 40 = .ok (.istore 6, 2) := by decide +kernel
theorem dX2_penalty_42 : decode cX2_penalty 42 = .ok (.aload_n 1, 1) := by decide +kernel
theorem dX2_penalty_43 : decode cX2_penalty 43 = .ok (.getfield 61, 3) := by decide +kernel
theorem dX2_penalty_46 : decode cX2_penalty 46 = .ok (.iload 5, 2) := by decide +kernel
theorem dX2_penalty_48 : decode cX2_penalty 48 = .ok (.iaload, 1) := by decide +kernel
theorem dX2_penalty_49 : decode cX2_penalty 49 = .ok (.aload_n 0, 1) := by decide +kernel
theorem dX2_penalty_50 : decode cX2_penalty 50 = .ok (.getfield 11, 3) := by decide +kernel
theorem dX2_penalty_53 : decode cX2_penalty 53 = .ok (.iload_n 3, 1) := by decide +kernel
theorem dX2_penalty_54 : decode cX2_penalty 54 = .ok (.iaload, 1) := by decide +kernel
theorem dX2_penalty_55 : decode cX2_penalty 55 = .ok (.if_icmp .ne 7, 3) := by decide +kernel
theorem dX2_penalty_58 : decode cX2_penalty 58 = .ok (.iconst 1, 1) := by decide +kernel
theorem dX2_penalty_59 : decode cX2_penalty 59 = .ok (.goto 4, 3) := by decide +kernel
theorem dX2_penalty_62 : decode cX2_penalty 62 = .ok (.iconst 0, 1) := by decide +kernel
theorem dX2_penalty_63 : decode cX2_penalty 63 = .ok (.istore 7, 2) := by decide +kernel
theorem dX2_penalty_65 : decode cX2_penalty 65 = .ok (.iload 6, 2) := by decide +kernel
theorem dX2_penalty_67 : decode cX2_penalty 67 = .ok (.iload 7, 2) := by decide +kernel
theorem dX2_penalty_69 : decode cX2_penalty 69 = .ok (.if_icmp .eq 9, 3) := by decide +kernel
theorem dX2_penalty_72 : decode cX2_penalty 72 = .ok (.iinc 4 3, 3) := by decide +kernel
theorem dX2_penalty_75 : decode cX2_penalty 75 = .ok (.goto 20, 3) := by decide +kernel
theorem dX2_penalty_78 : decode cX2_penalty 78 = .ok (.iload 6, 2) := by decide +kernel
theorem dX2_penalty_80 : decode cX2_penalty 80 = .ok (.ifCond .ne 15, 3) := by decide +kernel
theorem dX2_penalty_83 : decode cX2_penalty 83 = .ok (.iload 4, 2) := by decide +kernel
theorem dX2_penalty_85 : decode cX2_penalty 85 = .ok (.aload_n 1, 1) := by decide +kernel
theorem dX2_penalty_86 : decode cX2_penalty 86 = .ok (.getfield 72, 3) := by decide +kernel
theorem dX2_penalty_89 : decode cX2_penalty 89 = .ok (.iload 5, 2) := by decide +kernel
theorem dX2_penalty_91 : decode cX2_penalty 91 = .ok (.iaload, 1) := by decide +kernel
theorem dX2_penalty_92 : decode cX2_penalty 92 = .ok (.iadd, 1) := by decide +kernel
theorem dX2_penalty_93 : decode cX2_penalty 93 = .ok (.istore 4, 2) := by decide +kernel
theorem dX2_penalty_95 : decode cX2_penalty 95 = .ok (.iinc 5 1, 3) := by decide +kernel
theorem dX2_penalty_98 : decode cX2_penalty 98 = .ok (.goto (-88), 3) := by decide +kernel
theorem dX2_penalty_101 : decode cX2_penalty 101 = .ok (.iload 4, 2) := by decide +kernel
theorem dX2_penalty_103 : decode cX2_penalty 103 = .ok (.ireturn, 1) := by decide +kernel
theorem dX3_begin_0 : decode cX3_begin 0 = .ok (.aload_n 0, 1) := by decide +kernel
theorem dX3_begin_1 : decode cX3_begin 1 = .ok (.iconst 0, 1) := by decide +kernel
theorem dX3_begin_2 : decode cX3_begin 2 = .ok (.putfield 9, 3) := by decide +kernel
theorem dX3_begin_5 : decode cX3_begin 5 = .ok (.aload_n 0, 1) := by decide +kernel
theorem dX3_begin_6 : decode cX3_begin 6 = .ok (.iconst 0, 1) := by decide +kernel
theorem dX3_begin_7 : decode cX3_begin 7 = .ok (.putfield 15, 3) := by decide +kernel
theorem dX3_begin_10 : decode cX3_begin 10 = .ok (.return_, 1) := by decide +kernel
theorem dX3_expect_0 : decode cX3_expect 0 = .ok (.aload_n 0, 1) := by decide +kernel
theorem dX3_expect_1 : decode cX3_expect 1 = .ok (.getfield 15, 3) := by decide +kernel
theorem dX3_expect_4 : decode cX3_expect 4 = .ok (.ifCond .ne 46, 3) := by decide +kernel
theorem dX3_expect_7 : decode cX3_expect 7 = .ok (.aload_n 0, 1) := by decide +kernel
theorem dX3_expect_8 : decode cX3_expect 8 = .ok (.getfield 9, 3) := by decide +kernel
theorem dX3_expect_11 : decode cX3_expect 11 = .ok (.aload_n 0, 1) := by decide +kernel
theorem dX3_expect_12 : decode cX3_expect 12 = .ok (.getfield 19, 3) := by decide +kernel
theorem dX3_expect_15 : decode cX3_expect 15 = .ok (.getfield 54, 3) := by decide +kernel
theorem dX3_expect_18 : decode cX3_expect 18 = .ok (.if_icmp .ge 32, 3) := by decide +kernel
theorem dX3_expect_21 : decode cX3_expect 21 = .ok (.aload_n 0, 1) := by decide +kernel
theorem dX3_expect_22 : decode cX3_expect 22 = .ok (.getfield 19, 3) := by decide +kernel
theorem dX3_expect_25 : decode cX3_expect 25 = .ok (.getfield 93, 3) := by decide +kernel
theorem dX3_expect_28 : decode cX3_expect 28 = .ok (.aload_n 0, 1) := by decide +kernel
theorem dX3_expect_29 : decode cX3_expect 29 = .ok (.getfield 9, 3) := by decide +kernel
theorem dX3_expect_32 : decode cX3_expect 32 = .ok (.caload, 1) := by decide +kernel
theorem dX3_expect_33 : decode cX3_expect 33 = .ok (.iload_n 1, 1) := by decide +kernel
theorem dX3_expect_34 : decode cX3_expect 34 = .ok (.if_icmp .ne 16, 3) := by decide +kernel
theorem dX3_expect_37 : decode cX3_expect 37 = .ok (.aload_n 0, 1) := by decide +kernel
theorem dX3_expect_38 : decode cX3_expect 38 = .ok (.dup, 1) := by decide +kernel
theorem dX3_expect_39 : decode cX3_expect 39 = .ok (.getfield 9, 3) := by decide +kernel
theorem dX3_expect_42 : decode cX3_expect 42 = .ok (.iconst 1, 1) := by decide +kernel
theorem dX3_expect_43 : decode cX3_expect 43 = .ok (.iadd, 1) := by decide +kernel
theorem dX3_expect_44 : decode cX3_expect 44 = .ok (.putfield 9, 3) := by decide +kernel
theorem dX3_expect_47 : decode cX3_expect 47 = .ok (.goto 8, 3) := by decide +kernel
theorem dX3_expect_50 : decode cX3_expect 50 = .ok (.aload_n 0, 1) := by decide +kernel
theorem dX3_expect_51 : decode cX3_expect 51 = .ok (.iconst 1, 1) := by decide +kernel
theorem dX3_expect_52 : decode cX3_expect 52 = .ok (.putfield 15, 3) := by decide +kernel
theorem dX3_expect_55 : decode cX3_expect 55 = .ok (.return_, 1) := by decide +kernel
theorem dX3_parseReads_0 : decode cX3_parseReads 0 = .ok (.aload_n 0, 1) := by decide +kernel
theorem dX3_parseReads_1 : decode cX3_parseReads 1 = .ok (.invokevirtual 23, 3) := by decide +kernel
theorem dX3_parseReads_4 : decode cX3_parseReads 4 = .ok (.aload_n 1, 1) := by decide +kernel
theorem dX3_parseReads_5 : decode cX3_parseReads 5 = .ok (.iconst 0, 1) := by decide +kernel
theorem dX3_parseReads_6 : decode cX3_parseReads 6 = .ok (.putfield 59, 3) := by decide +kernel
theorem dX3_parseReads_9 : decode cX3_parseReads 9 = .ok (.aload_n 0, 1) := by decide +kernel
theorem dX3_parseReads_10 : decode cX3_parseReads 10 = .ok (.getfield 15, 3) := by decide +kernel
theorem dX3_parseReads_13 : decode cX3_parseReads 13 = .ok (.ifCond .ne 52, 3) := by decide +kernel
theorem dX3_parseReads_16 : decode cX3_parseReads 16 = .ok (.aload_n 0, 1) := by decide +kernel
theorem dX3_parseReads_17 : decode cX3_parseReads 17 = .ok (.getfield 9, 3) := by decide +kernel
theorem dX3_parseReads_20 : decode cX3_parseReads 20 = .ok (.aload_n 0, 1) := by decide +kernel
theorem dX3_parseReads_21 : decode cX3_parseReads 21 = .ok (.getfield 19, 3) := by decide +kernel
theorem dX3_parseReads_24 : decode cX3_parseReads 24 = .ok (.getfield 54, 3) := by decide +kernel
theorem dX3_parseReads_27 : decode cX3_parseReads 27 = .ok (.if_icmp .ge 38, 3) := by decide +kernel
theorem dX3_parseReads_30 : decode cX3_parseReads 30 = .ok (.aload_n 1, 1) := by decide +kernel
theorem dX3_parseReads_31 : decode cX3_parseReads 31 = .ok (.getfield 59, 3) := by decide +kernel
theorem dX3_parseReads_34 : decode cX3_parseReads 34 = .ok (.bipush 8, 2) := by decide +kernel
theorem dX3_parseReads_36 : decode cX3_parseReads 36 = .ok (.if_icmp .ge 29, 3) := by decide +kernel
theorem dX3_parseReads_39 : decode cX3_parseReads 39 = .ok (.aload_n 0, 1) := by decide +kernel
theorem dX3_parseReads_40 : decode cX3_parseReads 40 = .ok (.aload_n 1, 1) := by decide +kernel
theorem dX3_parseReads_41 : decode cX3_parseReads 41 = .ok (.getfield 62, 3) := by decide +kernel
theorem dX3_parseReads_44 : decode cX3_parseReads 44 = .ok (.aload_n 1, 1) := by decide +kernel
theorem dX3_parseReads_45 : decode cX3_parseReads 45 = .ok (.getfield 59, 3) := by decide +kernel
theorem dX3_parseReads_48 : decode cX3_parseReads 48 = .ok (.aaload, 1) := by decide +kernel
theorem dX3_parseReads_49 : decode cX3_parseReads 49 = .ok (.invokevirtual 66, 3) := by decide +kernel
theorem dX3_parseReads_52 : decode cX3_parseReads 52 = .ok (.aload_n 1, 1) := by decide +kernel
theorem dX3_parseReads_53 : decode cX3_parseReads 53 = .ok (.dup, 1) := by decide +kernel
theorem dX3_parseReads_54 : decode cX3_parseReads 54 = .ok (.getfield 59, 3) := by decide +kernel
theorem dX3_parseReads_57 : decode cX3_parseReads 57 = .ok (.iconst 1, 1) := by decide +kernel
theorem dX3_parseReads_58 : decode cX3_parseReads 58 = .ok (.iadd, 1) := by decide +kernel
theorem dX3_parseReads_59 : decode cX3_parseReads 59 = .ok (.putfield 59, 3) := by decide +kernel
theorem dX3_parseReads_62 : decode cX3_parseReads 62 = .ok (.goto (-53), 3) := by decide +kernel
theorem dX3_parseReads_65 : decode cX3_parseReads 65 = .ok (.aload_n 0, 1) := by decide +kernel
theorem dX3_parseReads_66 : decode cX3_parseReads 66 = .ok (.getfield 15, 3) := by decide +kernel
theorem dX3_parseReads_69 : decode cX3_parseReads 69 = .ok (.ifCond .ne 17, 3) := by decide +kernel
theorem dX3_parseReads_72 : decode cX3_parseReads 72 = .ok (.aload_n 0, 1) := by decide +kernel
theorem dX3_parseReads_73 : decode cX3_parseReads 73 = .ok (.getfield 9, 3) := by decide +kernel
theorem dX3_parseReads_76 : decode cX3_parseReads 76 = .ok (.aload_n 0, 1) := by decide +kernel
theorem dX3_parseReads_77 : decode cX3_parseReads 77 = .ok (.getfield 19, 3) := by decide +kernel
theorem dX3_parseReads_80 : decode cX3_parseReads 80 = .ok (.getfield 54, 3) := by decide +kernel
theorem dX3_parseReads_83 : decode cX3_parseReads 83 = .ok (.if_icmp .ge 10, 3) := by decide +kernel
theorem dX3_parseReads_86 : decode cX3_parseReads 86 = .ok (.aload_n 0, 1) := by decide +kernel
theorem dX3_parseReads_87 : decode cX3_parseReads 87 = .ok (.getfield 9, 3) := by decide +kernel
theorem dX3_parseReads_90 : decode cX3_parseReads 90 = .ok (.goto 4, 3) := by decide +kernel
theorem dX3_parseReads_93 : decode cX3_parseReads 93 = .ok (.iconst (-1), 1) := by decide +kernel
theorem dX3_parseReads_94 : decode cX3_parseReads 94 = .ok (.ireturn, 1) := by decide +kernel
theorem dX3_parseReference_0 : decode cX3_parseReference 0 = .ok (.aload_n 0, 1) := by decide +kernel
theorem dX3_parseReference_1 : decode cX3_parseReference 1 = .ok (.invokevirtual 23, 3) := by decide +kernel
theorem dX3_parseReference_4 : decode cX3_parseReference 4 = .ok (.aload_n 0, 1) := by decide +kernel
theorem dX3_parseReference_5 : decode cX3_parseReference 5 = .ok (.bipush 62, 2) := by decide +kernel
theorem dX3_parseReference_7 : decode cX3_parseReference 7 = .ok (.invokevirtual 26, 3) := by decide +kernel
theorem dX3_parseReference_10 : decode cX3_parseReference 10 = .ok (.aload_n 1, 1) := by decide +kernel
theorem dX3_parseReference_11 : decode cX3_parseReference 11 = .ok (.aload_n 0, 1) := by decide +kernel
theorem dX3_parseReference_12 : decode cX3_parseReference 12 = .ok (.iconst 1, 1) := by decide +kernel
theorem dX3_parseReference_13 : decode cX3_parseReference 13 = .ok (.bipush 8, 2) := by decide +kernel
theorem dX3_parseReference_15 : decode cX3_parseReference 15 = .ok (.iconst 0, 1) := by decide +kernel
theorem dX3_parseReference_16 : decode cX3_parseReference 16 = .ok (.invokevirtual 30, 3) := by decide +kernel
theorem dX3_parseReference_19 : decode cX3_parseReference 19 = .ok (.putfield 34, 3) := by decide +kernel
theorem dX3_parseReference_22 : decode cX3_parseReference 22 = .ok (.iconst 0, 1) := by decide +kernel
theorem dX3_parseReference_23 : decode cX3_parseReference 23 = .ok (.istore_n 2, 1) := by decide +kernel
theorem dX3_parseReference_24 : decode cX3_parseReference 24 = .ok (.iload_n 2, 1) := by decide +kernel
theorem dX3_parseReference_25 : decode cX3_parseReference 25 = .ok (.aload_n 1, 1) := by decide +kernel
theorem dX3_parseReference_26 : decode cX3_parseReference 26 = .ok (.getfield 34, 3) := by decide +kernel
theorem dX3_parseReference_29 : decode cX3_parseReference 29 = .ok (.if_icmp .ge 24, 3) := by decide +kernel
theorem dX3_parseReference_32 : decode cX3_parseReference 32 = .ok (.aload_n 1, 1) := by decide +kernel
theorem dX3_parseReference_33 : decode cX3_parseReference 33 = .ok (.getfield 39, 3) := by decide +kernel
theorem dX3_parseReference_36 : decode cX3_parseReference 36 = .ok (.iload_n 2, 1) := by decide +kernel
theorem dX3_parseReference_37 : decode cX3_parseReference 37 = .ok (.aload_n 0, 1) := by decide +kernel
theorem dX3_parseReference_38 : decode cX3_parseReference 38 = .ok (.aload_n 1, 1) := by decide +kernel
theorem dX3_parseReference_39 : decode cX3_parseReference 39 = .ok (.getfield 34, 3) := by decide +kernel
theorem dX3_parseReference_42 : decode cX3_parseReference 42 = .ok (.iload_n 2, 1) := by decide +kernel
theorem dX3_parseReference_43 : decode cX3_parseReference 43 = .ok (.invokevirtual 43, 3) := by decide +kernel
theorem dX3_parseReference_46 : decode cX3_parseReference 46 = .ok (.castore, 1) := by decide +kernel
theorem dX3_parseReference_47 : decode cX3_parseReference 47 = .ok (.iinc 2 1, 3) := by decide +kernel
theorem dX3_parseReference_50 : decode cX3_parseReference 50 = .ok (.goto (-26), 3) := by decide +kernel
theorem dX3_parseReference_53 : decode cX3_parseReference 53 = .ok (.aload_n 0, 1) := by decide +kernel
theorem dX3_parseReference_54 : decode cX3_parseReference 54 = .ok (.bipush 10, 2) := by decide +kernel
theorem dX3_parseReference_56 : decode cX3_parseReference 56 = .ok (.invokevirtual 26, 3) := by decide +kernel
theorem dX3_parseReference_59 : decode cX3_parseReference 59 = .ok (.aload_n 1, 1) := by decide +kernel
theorem dX3_parseReference_60 : decode cX3_parseReference 60 = .ok (.iconst 0, 1) := by decide +kernel
theorem dX3_parseReference_61 : decode cX3_parseReference 61 = .ok (.putfield 47, 3) := by decide +kernel
theorem dX3_parseReference_64 : decode cX3_parseReference 64 = .ok (.aload_n 0, 1) := by decide +kernel
theorem dX3_parseReference_65 : decode cX3_parseReference 65 = .ok (.aload_n 1, 1) := by decide +kernel
theorem dX3_parseReference_66 : decode cX3_parseReference 66 = .ok (.invokevirtual 50, 3) := by decide +kernel
theorem dX3_parseReference_69 : decode cX3_parseReference 69 = .ok (.iconst 1, 1) := by decide +kernel
theorem dX3_parseReference_70 : decode cX3_parseReference 70 = .ok (.istore_n 2, 1) := by decide +kernel
theorem dX3_parseReference_71 : decode cX3_parseReference 71 = .ok (.iload_n 2, 1) := by decide +kernel
theorem dX3_parseReference_72 : decode cX3_parseReference 72 = .ok (.bipush 48, 2) := by decide +kernel
theorem dX3_parseReference_74 : decode cX3_parseReference 74 = .ok (.if_icmp .gt 35, 3) := by decide +kernel
theorem dX3_parseReference_77 : decode cX3_parseReference 77 = .ok (.aload_n 0, 1) := by decide +kernel
theorem dX3_parseReference_78 : decode cX3_parseReference 78 = .ok (.getfield 15, 3) := by decide +kernel
theorem dX3_parseReference_81 : decode cX3_parseReference 81 = .ok (.ifCond .ne 28, 3) := by decide +kernel
theorem dX3_parseReference_84 : decode cX3_parseReference 84 = .ok (.aload_n 0, 1) := by decide +kernel
theorem dX3_parseReference_85 : decode cX3_parseReference 85 = .ok (.getfield 9, 3) := by decide +kernel
theorem dX3_parseReference_88 : decode cX3_parseReference 88 = .ok (.aload_n 0, 1) := by decide +kernel
theorem dX3_parseReference_89 : decode cX3_parseReference 89 = .ok (.getfield 19, 3) := by decide +kernel
theorem dX3_parseReference_92 : decode cX3_parseReference 92 = .ok (.getfield 54, 3) := by decide +kernel
theorem dX3_parseReference_95 : decode cX3_parseReference 95 = .ok (.if_icmp .ge 14, 3) := by decide +kernel
theorem dX3_parseReference_98 : decode cX3_parseReference 98 = .ok (.aload_n 0, 1) := by decide +kernel
theorem dX3_parseReference_99 : decode cX3_parseReference 99 = .ok (.aload_n 1, 1) := by decide +kernel
theorem dX3_parseReference_100 : decode cX3_parseReference 100 = .ok (.invokevirtual 50, 3) := by decide +kernel
theorem dX3_parseReference_103 : decode cX3_parseReference 103 = .ok (.iinc 2 1, 3) := by decide +kernel
theorem dX3_parseReference_106 : decode cX3_parseReference 106 = .ok (.goto (-35), 3) := by decide +kernel
theorem dX3_parseReference_109 : decode cX3_parseReference 109 = .ok (.aload_n 0, 1) := by decide +kernel
theorem dX3_parseReference_110 : decode cX3_parseReference 110 = .ok (.getfield 15, 3) := by decide +kernel
theorem dX3_parseReference_113 : decode cX3_parseReference 113 = .ok (.ifCond .eq 10, 3) := by decide +kernel
theorem dX3_parseReference_116 : decode cX3_parseReference 116 = .ok (.aload_n 0, 1) := by decide +kernel
theorem dX3_parseReference_117 : decode cX3_parseReference 117 = .ok (.getfield 9, 3) := by decide +kernel
theorem dX3_parseReference_120 : decode cX3_parseReference 120 = .ok (.goto 4, 3) := by decide +kernel
theorem dX3_parseReference_123 : decode cX3_parseReference 123 = .ok (.iconst (-1), 1) := by decide +kernel
theorem dX3_parseReference_124 : decode cX3_parseReference 124 = .ok (.ireturn, 1) := by decide +kernel
theorem dX3_take_0 : decode cX3_take 0 = .ok (.iconst 0, 1) := by decide +kernel
theorem dX3_take_1 : decode cX3_take 1 = .ok (.istore 4, 2) := by decide +kernel
theorem dX3_take_3 : decode cX3_take 3 = .ok (.aload_n 0, 1) := by decide +kernel
theorem dX3_take_4 : decode cX3_take 4 = .ok (.getfield 15, 3) := by decide +kernel
theorem dX3_take_7 : decode cX3_take 7 = .ok (.ifCond .ne 58, 3) := by decide +kernel
theorem dX3_take_10 : decode cX3_take 10 = .ok (.iload 4, 2) := by decide +kernel
theorem dX3_take_12 : decode cX3_take 12 = .ok (.iload_n 2, 1) := by decide +kernel
theorem dX3_take_13 : decode cX3_take 13 = .ok (.if_icmp .ge 52, 3) := by decide +kernel
theorem dX3_take_16 : decode cX3_take 16 = .ok (.aload_n 0, 1) := by decide +kernel
theorem dX3_take_17 : decode cX3_take 17 = .ok (.getfield 9, 3) := by decide +kernel
theorem dX3_take_20 : decode cX3_take 20 = .ok (.aload_n 0, 1) := by decide +kernel
theorem dX3_take_21 : decode cX3_take 21 = .ok (.getfield 19, 3) := by decide +kernel
theorem dX3_take_24 : decode cX3_take 24 = .ok (.getfield 54, 3) := by decide +kernel
theorem dX3_take_27 : decode cX3_take 27 = .ok (.if_icmp .ge 38, 3) := by decide +kernel
theorem dX3_take_30 : decode cX3_take 30 = .ok (.iload_n 3, 1) := by decide +kernel
theorem dX3_take_31 : decode cX3_take 31 = .ok (.aload_n 0, 1) := by decide +kernel
theorem dX3_take_32 : decode cX3_take 32 = .ok (.getfield 19, 3) := by decide +kernel
theorem dX3_take_35 : decode cX3_take 35 = .ok (.getfield 93, 3) := by decide +kernel
theorem dX3_take_38 : decode cX3_take 38 = .ok (.aload_n 0, 1) := by decide +kernel
theorem dX3_take_39 : decode cX3_take 39 = .ok (.getfield 9, 3) := by decide +kernel
theorem dX3_take_42 : decode cX3_take 42 = .ok (.caload, 1) := by decide +kernel
theorem dX3_take_43 : decode cX3_take 43 = .ok (.invokestatic 96, 3) := by decide +kernel
theorem dX3_take_46 : decode cX3_take 46 = .ok (.ifCond .eq 19, 3) := by decide +kernel
theorem dX3_take_49 : decode cX3_take 49 = .ok (.aload_n 0, 1) := by decide +kernel
theorem dX3_take_50 : decode cX3_take 50 = .ok (.dup, 1) := by decide +kernel
theorem dX3_take_51 : decode cX3_take 51 = .ok (.getfield 9, 3) := by decide +kernel
theorem dX3_take_54 : decode cX3_take 54 = .ok (.iconst 1, 1) := by decide +kernel
theorem dX3_take_55 : decode cX3_take 55 = .ok (.iadd, 1) := by decide +kernel
theorem dX3_take_56 : decode cX3_take 56 = .ok (.putfield 9, 3) := by decide +kernel
theorem dX3_take_59 : decode cX3_take 59 = .ok (.iinc 4 1, 3) := by decide +kernel
theorem dX3_take_62 : decode cX3_take 62 = .ok (.goto (-59), 3) := by decide +kernel
theorem dX3_take_65 : decode cX3_take 65 = .ok (.iload 4, 2) := by decide +kernel
theorem dX3_take_67 : decode cX3_take 67 = .ok (.iload_n 1, 1) := by decide +kernel
theorem dX3_take_68 : decode cX3_take 68 = .ok (.if_icmp .ge 8, 3) := by decide +kernel
theorem dX3_take_71 : decode cX3_take 71 = .ok (.aload_n 0, 1) := by decide +kernel
theorem dX3_take_72 : decode cX3_take 72 = .ok (.iconst 1, 1) := by decide +kernel
theorem dX3_take_73 : decode cX3_take 73 = .ok (.putfield 15, 3) := by decide +kernel
theorem dX3_take_76 : decode cX3_take 76 = .ok (.aload_n 0, 1) := by decide +kernel
theorem dX3_take_77 : decode cX3_take 77 = .ok (.getfield 15, 3) := by decide +kernel
theorem dX3_take_80 : decode cX3_take 80 = .ok (.ifCond .eq 7, 3) := by decide +kernel
theorem dX3_take_83 : decode cX3_take 83 = .ok (.iconst 0, 1) := by decide +kernel
theorem dX3_take_84 : decode cX3_take 84 = .ok (.goto 5, 3) := by decide +kernel
theorem dX3_take_87 : decode cX3_take 87 = .ok (.iload 4, 2) := by decide +kernel
theorem dX3_take_89 : decode cX3_take 89 = .ok (.ireturn, 1) := by decide +kernel
theorem dX3_taken_0 : decode cX3_taken 0 = .ok (.aload_n 0, 1) := by decide +kernel
theorem dX3_taken_1 : decode cX3_taken 1 = .ok (.getfield 19, 3) := by decide +kernel
theorem dX3_taken_4 : decode cX3_taken 4 = .ok (.getfield 93, 3) := by decide +kernel
theorem dX3_taken_7 : decode cX3_taken 7 = .ok (.aload_n 0, 1) := by decide +kernel
theorem dX3_taken_8 : decode cX3_taken 8 = .ok (.getfield 9, 3) := by decide +kernel
theorem dX3_taken_11 : decode cX3_taken 11 = .ok (.iload_n 1, 1) := by decide +kernel
theorem dX3_taken_12 : decode cX3_taken 12 = .ok (.isub, 1) := by decide +kernel
theorem dX3_taken_13 : decode cX3_taken 13 = .ok (.iload_n 2, 1) := by decide +kernel
theorem dX3_taken_14 : decode cX3_taken 14 = .ok (.iadd, 1) := by decide +kernel
theorem dX3_taken_15 : decode cX3_taken 15 = .ok (.caload, 1) := by decide +kernel
theorem dX3_taken_16 : decode cX3_taken 16 = .ok (.ireturn, 1) := by decide +kernel
theorem dX4_forget_0 : decode cX4_forget 0 = .ok (.iconst 0, 1) := by decide +kernel
theorem dX4_forget_1 : decode cX4_forget 1 = .ok (.istore_n 1, 1) := by decide +kernel
theorem dX4_forget_2 : decode cX4_forget 2 = .ok (.iload_n 1, 1) := by decide +kernel
theorem dX4_forget_3 : decode cX4_forget 3 = .ok (.bipush 48, 2) := by decide +kernel
theorem dX4_forget_5 : decode cX4_forget 5 = .ok (.if_icmp .ge 29, 3) := by decide +kernel
theorem dX4_forget_8 : decode cX4_forget 8 = .ok (.aload_n 0, 1) := by decide +kernel
theorem dX4_forget_9 : decode cX4_forget 9 = .ok (.getfield 11, 3) := by decide +kernel
theorem dX4_forget_12 : decode cX4_forget 12 = .ok (.iload_n 1, 1) := by decide +kernel
theorem dX4_forget_13 : decode cX4_forget 13 = .ok (.aaload, 1) := by decide +kernel
theorem dX4_forget_14 : decode cX4_forget 14 = .ok (.iconst 0, 1) := by decide +kernel
theorem dX4_forget_15 : decode cX4_forget 15 = .ok (.putfield 21, 3) := by decide +kernel
theorem dX4_forget_18 : decode cX4_forget 18 = .ok (.aload_n 0, 1) := by decide +kernel
theorem dX4_forget_19 : decode cX4_forget 19 = .ok (.getfield 17, 3) := by decide +kernel
theorem dX4_forget_22 : decode cX4_forget 22 = .ok (.iload_n 1, 1) := by decide +kernel
theorem dX4_forget_23 : decode cX4_forget 23 = .ok (.aaload, 1) := by decide +kernel
theorem dX4_forget_24 : decode cX4_forget 24 = .ok (.iconst 0, 1) := by decide +kernel
theorem dX4_forget_25 : decode cX4_forget 25 = .ok (.putfield 21, 3) := by decide +kernel
theorem dX4_forget_28 : decode cX4_forget 28 = .ok (.iinc 1 1, 3) := by decide +kernel
theorem dX4_forget_31 : decode cX4_forget 31 = .ok (.goto (-29), 3) := by decide +kernel
theorem dX4_forget_34 : decode cX4_forget 34 = .ok (.return_, 1) := by decide +kernel
theorem dX4_gather_0 : decode cX4_gather 0 = .ok (.iconst 0, 1) := by decide +kernel
theorem dX4_gather_1 : decode cX4_gather 1 = .ok (.istore_n 2, 1) := by decide +kernel
theorem dX4_gather_2 : decode cX4_gather 2 = .ok (.aload_n 1, 1) := by decide +kernel
theorem dX4_gather_3 : decode cX4_gather 3 = .ok (.getfield 25, 3) := by decide +kernel
theorem dX4_gather_6 : decode cX4_gather 6 = .ok (.istore_n 3, 1) := by decide +kernel
theorem dX4_gather_7 : decode cX4_gather 7 = .ok (.iconst (-1), 1) := by decide +kernel
theorem dX4_gather_8 : decode cX4_gather 8 = .ok (.istore 4, 2) := by decide +kernel
theorem dX4_gather_10 : decode cX4_gather 10 = .ok (.iconst (-1), 1) := by decide +kernel
theorem dX4_gather_11 : decode cX4_gather 11 = .ok (.istore 5, 2) := by decide +kernel
theorem dX4_gather_13 : decode cX4_gather 13 = .ok (.iconst 0, 1) := by decide +kernel
theorem dX4_gather_14 : decode cX4_gather 14 = .ok (.istore 6, 2) := by decide +kernel
theorem dX4_gather_16 : decode cX4_gather 16 = .ok (.iconst 1, 1) := by decide +kernel
theorem dX4_gather_17 : decode cX4_gather 17 = .ok (.istore 7, 2) := by decide +kernel
theorem dX4_gather_19 : decode cX4_gather 19 = .ok (.iconst 0, 1) := by decide +kernel
theorem dX4_gather_20 : decode cX4_gather 20 = .ok (.istore 8, 2) := by decide +kernel
theorem dX4_gather_22 : decode cX4_gather 22 = .ok (.iload 8, 2) := by decide +kernel
theorem dX4_gather_24 : decode cX4_gather 24 = .ok (.aload_n 1, 1) := by decide +kernel
theorem dX4_gather_25 : decode cX4_gather 25 = .ok (.getfield 30, 3) := by decide +kernel
theorem dX4_gather_28 : decode cX4_gather 28 = .ok (.if_icmp .ge 121, 3) := by decide +kernel
theorem dX4_gather_31 : decode cX4_gather 31 = .ok (.aload_n 1, 1) := by decide +kernel
theorem dX4_gather_32 : decode cX4_gather 32 = .ok (.iload 8, 2) := by decide +kernel
theorem dX4_gather_34 : decode cX4_gather 34 = .ok (.invokevirtual 33, 3) := by decide +kernel
theorem dX4_gather_37 : decode cX4_gather 37 = .ok (.istore 9, 2) := by decide +kernel
theorem dX4_gather_39 : decode cX4_gather 39 = .ok (.iload 9, 2) := by decide +kernel
theorem dX4_gather_41 : decode cX4_gather 41 = .ok (.iconst 1, 1) := by decide +kernel
theorem dX4_gather_42 : decode cX4_gather 42 = .ok (.if_icmp .ne 70, 3) := by decide +kernel
theorem dX4_gather_45 : decode cX4_gather 45 = .ok (.aload_n 0, 1) := by decide +kernel
theorem dX4_gather_46 : decode cX4_gather 46 = .ok (.aload_n 1, 1) := by decide +kernel
theorem dX4_gather_47 : decode cX4_gather 47 = .ok (.iload_n 2, 1) := by decide +kernel
theorem dX4_gather_48 : decode cX4_gather 48 = .ok (.iload_n 3, 1) := by decide +kernel
theorem dX4_gather_49 : decode cX4_gather 49 = .ok (.invokevirtual 37, 3) := by decide +kernel
theorem dX4_gather_52 : decode cX4_gather 52 = .ok (.iload 5, 2) := by decide +kernel
theorem dX4_gather_54 : decode cX4_gather 54 = .ok (.iconst (-1), 1) := by decide +kernel
theorem dX4_gather_55 : decode cX4_gather 55 = .ok (.if_icmp .eq 36, 3) := by decide +kernel
theorem dX4_gather_58 : decode cX4_gather 58 = .ok (.aload_n 1, 1) := by decide +kernel
theorem dX4_gather_59 : decode cX4_gather 59 = .ok (.getfield 41, 3) := by decide +kernel
theorem dX4_gather_62 : decode cX4_gather 62 = .ok (.iload 4, 2) := by decide +kernel
theorem dX4_gather_64 : decode cX4_gather 64 = .ok (.iaload, 1) := by decide +kernel
theorem dX4_gather_65 : decode cX4_gather 65 = .ok (.aload_n 1, 1) := by decide +kernel
theorem dX4_gather_66 : decode cX4_gather 66 = .ok (.getfield 41, 3) := by decide +kernel
theorem dX4_gather_69 : decode cX4_gather 69 = .ok (.iload_n 2, 1) := by decide +kernel
theorem dX4_gather_70 : decode cX4_gather 70 = .ok (.iaload, 1) := by decide +kernel
theorem dX4_gather_71 : decode cX4_gather 71 = .ok (.invokestatic 45, 3) := by decide +kernel
theorem dX4_gather_74 : decode cX4_gather 74 = .ok (.istore 10, 2) := by decide +kernel
theorem dX4_gather_76 : decode cX4_gather 76 = .ok (.aload_n 0, 1) := by decide +kernel
theorem dX4_gather_77 : decode cX4_gather 77 = .ok (.iload 5, 2) := by decide +kernel
theorem dX4_gather_79 : decode cX4_gather 79 = .ok (.iload 6, 2) := by decide +kernel
theorem dX4_gather_81 : decode cX4_gather 81 = .ok (.iload 7, 2) := by decide +kernel
theorem dX4_gather_83 : decode cX4_gather 83 = .ok (.invokestatic 51, 3) := by decide +kernel
theorem dX4_gather_86 : decode cX4_gather 86 = .ok (.iload 10, 2) := by decide +kernel
theorem dX4_gather_88 : decode cX4_gather 88 = .ok (.invokevirtual 54, 3) := by decide +kernel
theorem dX4_gather_91 : decode cX4_gather 91 = .ok (.iload_n 2, 1) := by decide +kernel
theorem dX4_gather_92 : decode cX4_gather 92 = .ok (.istore 4, 2) := by decide +kernel
theorem dX4_gather_94 : decode cX4_gather 94 = .ok (.iload_n 3, 1) := by decide +kernel
theorem dX4_gather_95 : decode cX4_gather 95 = .ok (.istore 5, 2) := by decide +kernel
theorem dX4_gather_97 : decode cX4_gather 97 = .ok (.iconst 0, 1) := by decide +kernel
theorem dX4_gather_98 : decode cX4_gather 98 = .ok (.istore 6, 2) := by decide +kernel
theorem dX4_gather_100 : decode cX4_gather 100 = .ok (.iconst 1, 1) := by decide +kernel
theorem dX4_gather_101 : decode cX4_gather 101 = .ok (.istore 7, 2) := by decide +kernel
theorem dX4_gather_103 : decode cX4_gather 103 = .ok (.iinc 2 1, 3) := by decide +kernel
theorem dX4_gather_106 : decode cX4_gather 106 = .ok (.iinc 3 1, 3) := by decide +kernel
theorem dX4_gather_109 : decode cX4_gather 109 = .ok (.goto 34, 3) := by decide +kernel
theorem dX4_gather_112 : decode cX4_gather 112 = .ok (.iload 9, 2) := by decide +kernel
theorem dX4_gather_114 : decode cX4_gather 114 = .ok (.iconst 2, 1) := by decide +kernel
theorem dX4_gather_115 : decode cX4_gather 115 = .ok (.if_icmp .ne 12, 3) := by decide +kernel
theorem dX4_gather_118 : decode cX4_gather 118 = .ok (.iinc 6 1, 3) := by decide +kernel
theorem dX4_gather_121 : decode cX4_gather 121 = .ok (.iinc 3 1, 3) := by decide +kernel
theorem dX4_gather_124 : decode cX4_gather 124 = .ok (.goto 19, 3) := by decide +kernel
theorem dX4_gather_127 : decode cX4_gather 127 = .ok (.iload 7, 2) := by decide +kernel
theorem dX4_gather_129 : decode cX4_gather 129 = .ok (.aload_n 1, 1) := by decide +kernel
theorem dX4_gather_130 : decode cX4_gather 130 = .ok (.getfield 58, 3) := by decide +kernel
theorem dX4_gather_133 : decode cX4_gather 133 = .ok (.iload_n 2, 1) := by decide +kernel
theorem dX4_gather_134 : decode cX4_gather 134 = .ok (.iaload, 1) := by decide +kernel
theorem dX4_gather_135 : decode cX4_gather 135 = .ok (.invokestatic 61, 3) := by decide +kernel
theorem dX4_gather_138 : decode cX4_gather 138 = .ok (.istore 7, 2) := by decide +kernel
theorem dX4_gather_140 : decode cX4_gather 140 = .ok (.iinc 2 1, 3) := by decide +kernel
theorem dX4_gather_143 : decode cX4_gather 143 = .ok (.iinc 8 1, 3) := by decide +kernel
theorem dX4_gather_146 : decode cX4_gather 146 = .ok (.goto (-124), 3) := by decide +kernel
theorem dX4_gather_149 : decode cX4_gather 149 = .ok (.return_, 1) := by decide +kernel
theorem dX4_gatherBase_0 : decode cX4_gatherBase 0 = .ok (.aload_n 1, 1) := by decide +kernel
theorem dX4_gatherBase_1 : decode cX4_gatherBase 1 = .ok (.getfield 58, 3) := by decide +kernel
theorem dX4_gatherBase_4 : decode cX4_gatherBase 4 = .ok (.iload_n 2, 1) := by decide +kernel
theorem dX4_gatherBase_5 : decode cX4_gatherBase 5 = .ok (.iaload, 1) := by decide +kernel
theorem dX4_gatherBase_6 : decode cX4_gatherBase 6 = .ok (.iconst 4, 1) := by decide +kernel
theorem dX4_gatherBase_7 : decode cX4_gatherBase 7 = .ok (.if_icmp .eq 24, 3) := by decide +kernel
theorem dX4_gatherBase_10 : decode cX4_gatherBase 10 = .ok (.aload_n 0, 1) := by decide +kernel
theorem dX4_gatherBase_11 : decode cX4_gatherBase 11 = .ok (.getfield 11, 3) := by decide +kernel
theorem dX4_gatherBase_14 : decode cX4_gatherBase 14 = .ok (.iload_n 3, 1) := by decide +kernel
theorem dX4_gatherBase_15 : decode cX4_gatherBase 15 = .ok (.aaload, 1) := by decide +kernel
theorem dX4_gatherBase_16 : decode cX4_gatherBase 16 = .ok (.aload_n 1, 1) := by decide +kernel
theorem dX4_gatherBase_17 : decode cX4_gatherBase 17 = .ok (.getfield 58, 3) := by decide +kernel
theorem dX4_gatherBase_20 : decode cX4_gatherBase 20 = .ok (.iload_n 2, 1) := by decide +kernel
theorem dX4_gatherBase_21 : decode cX4_gatherBase 21 = .ok (.iaload, 1) := by decide +kernel
theorem dX4_gatherBase_22 : decode cX4_gatherBase 22 = .ok (.aload_n 1, 1) := by decide +kernel
theorem dX4_gatherBase_23 : decode cX4_gatherBase 23 = .ok (.getfield 41, 3) := by decide +kernel
theorem dX4_gatherBase_26 : decode cX4_gatherBase 26 = .ok (.iload_n 2, 1) := by decide +kernel
theorem dX4_gatherBase_27 : decode cX4_gatherBase 27 = .ok (.iaload, 1) := by decide +kernel
theorem dX4_gatherBase_28 : decode cX4_gatherBase 28 = .ok (.invokevirtual 64, 3) := by decide +kernel
theorem dX4_gatherBase_31 : decode cX4_gatherBase 31 = .ok (.return_, 1) := by decide +kernel
theorem dX4_gatherLink_0 : decode cX4_gatherLink 0 = .ok (.iload_n 2, 1) := by decide +kernel
theorem dX4_gatherLink_1 : decode cX4_gatherLink 1 = .ok (.iconst (-1), 1) := by decide +kernel
theorem dX4_gatherLink_2 : decode cX4_gatherLink 2 = .ok (.if_icmp .eq 14, 3) := by decide +kernel
theorem dX4_gatherLink_5 : decode cX4_gatherLink 5 = .ok (.aload_n 0, 1) := by decide +kernel
theorem dX4_gatherLink_6 : decode cX4_gatherLink 6 = .ok (.getfield 17, 3) := by decide +kernel
theorem dX4_gatherLink_9 : decode cX4_gatherLink 9 = .ok (.iload_n 1, 1) := by decide +kernel
theorem dX4_gatherLink_10 : decode cX4_gatherLink 10 = .ok (.aaload, 1) := by decide +kernel
theorem dX4_gatherLink_11 : decode cX4_gatherLink 11 = .ok (.iload_n 2, 1) := by decide +kernel
theorem dX4_gatherLink_12 : decode cX4_gatherLink 12 = .ok (.iload_n 3, 1) := by decide +kernel
theorem dX4_gatherLink_13 : decode cX4_gatherLink 13 = .ok (.invokevirtual 64, 3) := by decide +kernel
theorem dX4_gatherLink_16 : decode cX4_gatherLink 16 = .ok (.return_, 1) := by decide +kernel
theorem dX4_linkOf_0 : decode cX4_linkOf 0 = .ok (.iload_n 1, 1) := by decide +kernel
theorem dX4_linkOf_1 : decode cX4_linkOf 1 = .ok (.iconst 1, 1) := by decide +kernel
theorem dX4_linkOf_2 : decode cX4_linkOf 2 = .ok (.if_icmp .ne 5, 3) := by decide +kernel
theorem dX4_linkOf_5 : decode cX4_linkOf 5 = .ok (.iload_n 0, 1) := by decide +kernel
theorem dX4_linkOf_6 : decode cX4_linkOf 6 = .ok (.ireturn, 1) := by decide +kernel
theorem dX4_linkOf_7 : decode cX4_linkOf 7 = .ok (.iload_n 0, 1) := by decide +kernel
theorem dX4_linkOf_8 : decode cX4_linkOf 8 = .ok (.ifCond .gt 7, 3) := by decide +kernel
theorem dX4_linkOf_11 : decode cX4_linkOf 11 = .ok (.iload_n 1, 1) := by decide +kernel
theorem dX4_linkOf_12 : decode cX4_linkOf 12 = .ok (.ifCond .ne 7, 3) := by decide +kernel
theorem dX4_linkOf_15 : decode cX4_linkOf 15 = .ok (.iconst (-1), 1) := by decide +kernel
theorem dX4_linkOf_16 : decode cX4_linkOf 16 = .ok (.goto 4, 3) := by decide +kernel
theorem dX4_linkOf_19 : decode cX4_linkOf 19 = .ok (.iload_n 1, 1) := by decide +kernel
theorem dX4_linkOf_20 : decode cX4_linkOf 20 = .ok (.ireturn, 1) := by decide +kernel
theorem dX4_withLetter_0 : decode cX4_withLetter 0 = .ok (.iload_n 0, 1) := by decide +kernel
theorem dX4_withLetter_1 : decode cX4_withLetter 1 = .ok (.ifCond .eq 8, 3) := by decide +kernel
theorem dX4_withLetter_4 : decode cX4_withLetter 4 = .ok (.iload_n 1, 1) := by decide +kernel
theorem dX4_withLetter_5 : decode cX4_withLetter 5 = .ok (.iconst 4, 1) := by decide +kernel
theorem dX4_withLetter_6 : decode cX4_withLetter 6 = .ok (.if_icmp .ne 7, 3) := by decide +kernel
theorem dX4_withLetter_9 : decode cX4_withLetter 9 = .ok (.iconst 0, 1) := by decide +kernel
theorem dX4_withLetter_10 : decode cX4_withLetter 10 = .ok (.goto 8, 3) := by decide +kernel
theorem dX4_withLetter_13 : decode cX4_withLetter 13 = .ok (.iload_n 0, 1) := by decide +kernel
theorem dX4_withLetter_14 : decode cX4_withLetter 14 = .ok (.iconst 4, 1) := by decide +kernel
theorem dX4_withLetter_15 : decode cX4_withLetter 15 = .ok (.imul, 1) := by decide +kernel
theorem dX4_withLetter_16 : decode cX4_withLetter 16 = .ok (.iload_n 1, 1) := by decide +kernel
theorem dX4_withLetter_17 : decode cX4_withLetter 17 = .ok (.iadd, 1) := by decide +kernel
theorem dX4_withLetter_18 : decode cX4_withLetter 18 = .ok (.ireturn, 1) := by decide +kernel
theorem dX5_opposite_0 : decode cX5_opposite 0 = .ok (.iload_n 0, 1) := by decide +kernel
theorem dX5_opposite_1 : decode cX5_opposite 1 = .ok (.iconst 4, 1) := by decide +kernel
theorem dX5_opposite_2 : decode cX5_opposite 2 = .ok (.if_icmp .ne 7, 3) := by decide +kernel
theorem dX5_opposite_5 : decode cX5_opposite 5 = .ok (.iconst 4, 1) := by decide +kernel
theorem dX5_opposite_6 : decode cX5_opposite 6 = .ok (.goto 6, 3) := by decide +kernel
theorem dX5_opposite_9 : decode cX5_opposite 9 = .ok (.iconst 3, 1) := by decide +kernel
theorem dX5_opposite_10 : decode cX5_opposite 10 = .ok (.iload_n 0, 1) := by decide +kernel
theorem dX5_opposite_11 : decode cX5_opposite 11 = .ok (.isub, 1) := by decide +kernel
theorem dX5_opposite_12 : decode cX5_opposite 12 = .ok (.ireturn, 1) := by decide +kernel
theorem dX5_stepFromFront_0 : decode cX5_stepFromFront 0 = .ok (.iload_n 1, 1) := by decide +kernel
theorem dX5_stepFromFront_1 : decode cX5_stepFromFront 1 = .ok (.ifCond .lt 11, 3) := by decide +kernel
theorem dX5_stepFromFront_4 : decode cX5_stepFromFront 4 = .ok (.iload_n 1, 1) := by decide +kernel
theorem dX5_stepFromFront_5 : decode cX5_stepFromFront 5 = .ok (.aload_n 0, 1) := by decide +kernel
theorem dX5_stepFromFront_6 : decode cX5_stepFromFront 6 = .ok (.getfield 41, 3) := by decide +kernel
theorem dX5_stepFromFront_9 : decode cX5_stepFromFront 9 = .ok (.if_icmp .lt 7, 3) := by decide +kernel
theorem dX5_stepFromFront_12 : decode cX5_stepFromFront 12 = .ok (.iconst 0, 1) := by decide +kernel
theorem dX5_stepFromFront_13 : decode cX5_stepFromFront 13 = .ok (.goto 16, 3) := by decide +kernel
theorem dX5_stepFromFront_16 : decode cX5_stepFromFront 16 = .ok (.aload_n 0, 1) := by decide +kernel
theorem dX5_stepFromFront_17 : decode cX5_stepFromFront 17 = .ok (.getfield 38, 3) := by decide +kernel
theorem dX5_stepFromFront_20 : decode cX5_stepFromFront 20 = .ok (.aload_n 0, 1) := by decide +kernel
theorem dX5_stepFromFront_21 : decode cX5_stepFromFront 21 = .ok (.getfield 41, 3) := by decide +kernel
theorem dX5_stepFromFront_24 : decode cX5_stepFromFront 24 = .ok (.iconst 1, 1) := by decide +kernel
theorem dX5_stepFromFront_25 : decode cX5_stepFromFront 25 = .ok (.isub, 1) := by decide +kernel
theorem dX5_stepFromFront_26 : decode cX5_stepFromFront 26 = .ok (.iload_n 1, 1) := by decide +kernel
theorem dX5_stepFromFront_27 : decode cX5_stepFromFront 27 = .ok (.isub, 1) := by decide +kernel
theorem dX5_stepFromFront_28 : decode cX5_stepFromFront 28 = .ok (.iaload, 1) := by decide +kernel
theorem dX5_stepFromFront_29 : decode cX5_stepFromFront 29 = .ok (.ireturn, 1) := by decide +kernel

theorem dX5_turn_0 : decode cX5_turn 0 = .ok (.aload_n 0, 1) := by decide +kernel
theorem dX5_turn_1 : decode cX5_turn 1 = .ok (.getfield 18, 3) := by decide +kernel
theorem dX5_turn_4 : decode cX5_turn 4 = .ok (.iconst 1, 1) := by decide +kernel
theorem dX5_turn_5 : decode cX5_turn 5 = .ok (.isub, 1) := by decide +kernel
theorem dX5_turn_6 : decode cX5_turn 6 = .ok (.istore_n 1, 1) := by decide +kernel
theorem dX5_turn_7 : decode cX5_turn 7 = .ok (.iconst 0, 1) := by decide +kernel
theorem dX5_turn_8 : decode cX5_turn 8 = .ok (.istore_n 2, 1) := by decide +kernel
theorem dX5_turn_9 : decode cX5_turn 9 = .ok (.iload_n 2, 1) := by decide +kernel
theorem dX5_turn_10 : decode cX5_turn 10 = .ok (.iload_n 1, 1) := by decide +kernel
theorem dX5_turn_11 : decode cX5_turn 11 = .ok (.if_icmp .gt 72, 3) := by decide +kernel
theorem dX5_turn_14 : decode cX5_turn 14 = .ok (.aload_n 0, 1) := by decide +kernel
theorem dX5_turn_15 : decode cX5_turn 15 = .ok (.getfield 9, 3) := by decide +kernel
theorem dX5_turn_18 : decode cX5_turn 18 = .ok (.iload_n 2, 1) := by decide +kernel
theorem dX5_turn_19 : decode cX5_turn 19 = .ok (.iaload, 1) := by decide +kernel
theorem dX5_turn_20 : decode cX5_turn 20 = .ok (.invokestatic 44, 3) := by decide +kernel
theorem dX5_turn_23 : decode cX5_turn 23 = .ok (.istore_n 3, 1) := by decide +kernel
theorem dX5_turn_24 : decode cX5_turn 24 = .ok (.aload_n 0, 1) := by decide +kernel
theorem dX5_turn_25 : decode cX5_turn 25 = .ok (.getfield 9, 3) := by decide +kernel
theorem dX5_turn_28 : decode cX5_turn 28 = .ok (.iload_n 2, 1) := by decide +kernel
theorem dX5_turn_29 : decode cX5_turn 29 = .ok (.aload_n 0, 1) := by decide +kernel
theorem dX5_turn_30 : decode cX5_turn 30 = .ok (.getfield 9, 3) := by decide +kernel
theorem dX5_turn_33 : decode cX5_turn 33 = .ok (.iload_n 1, 1) := by decide +kernel
theorem dX5_turn_34 : decode cX5_turn 34 = .ok (.iaload, 1) := by decide +kernel
theorem dX5_turn_35 : decode cX5_turn 35 = .ok (.invokestatic 44, 3) := by decide +kernel
theorem dX5_turn_38 : decode cX5_turn 38 = .ok (.iastore, 1) := by decide +kernel
theorem dX5_turn_39 : decode cX5_turn 39 = .ok (.aload_n 0, 1) := by decide +kernel
theorem dX5_turn_40 : decode cX5_turn 40 = .ok (.getfield 9, 3) := by decide +kernel
theorem dX5_turn_43 : decode cX5_turn 43 = .ok (.iload_n 1, 1) := by decide +kernel
theorem dX5_turn_44 : decode cX5_turn 44 = .ok (.iload_n 3, 1) := by decide +kernel
theorem dX5_turn_45 : decode cX5_turn 45 = .ok (.iastore, 1) := by decide +kernel
theorem dX5_turn_46 : decode cX5_turn 46 = .ok (.aload_n 0, 1) := by decide +kernel
theorem dX5_turn_47 : decode cX5_turn 47 = .ok (.getfield 15, 3) := by decide +kernel
theorem dX5_turn_50 : decode cX5_turn 50 = .ok (.iload_n 2, 1) := by decide +kernel
theorem dX5_turn_51 : decode cX5_turn 51 = .ok (.iaload, 1) := by decide +kernel
theorem dX5_turn_52 : decode cX5_turn 52 = .ok (.istore 4, 2) := by decide +kernel
theorem dX5_turn_54 : decode cX5_turn 54 = .ok (.aload_n 0, 1) := by decide +kernel
theorem dX5_turn_55 : decode cX5_turn 55 = .ok (.getfield 15, 3) := by decide +kernel
theorem dX5_turn_58 : decode cX5_turn 58 = .ok (.iload_n 2, 1) := by decide +kernel
theorem dX5_turn_59 : decode cX5_turn 59 = .ok (.aload_n 0, 1) := by decide +kernel
theorem dX5_turn_60 : decode cX5_turn 60 = .ok (.getfield 15, 3) := by decide +kernel
theorem dX5_turn_63 : decode cX5_turn 63 = .ok (.iload_n 1, 1) := by decide +kernel
theorem dX5_turn_64 : decode cX5_turn 64 = .ok (.iaload, 1) := by decide +kernel
theorem dX5_turn_65 : decode cX5_turn 65 = .ok (.iastore, 1) := by decide +kernel
theorem dX5_turn_66 : decode cX5_turn 66 = .ok (.aload_n 0, 1) := by decide +kernel
theorem dX5_turn_67 : decode cX5_turn 67 = .ok (.getfield 15, 3) := by decide +kernel
theorem dX5_turn_70 : decode cX5_turn 70 = .ok (.iload_n 1, 1) := by decide +kernel
theorem dX5_turn_71 : decode cX5_turn 71 = .ok (.iload 4, 2) := by decide +kernel
theorem dX5_turn_73 : decode cX5_turn 73 = .ok (.iastore, 1) := by decide +kernel
theorem dX5_turn_74 : decode cX5_turn 74 = .ok (.iinc 1 (-1), 3) := by decide +kernel
theorem dX5_turn_77 : decode cX5_turn 77 = .ok (.iinc 2 1, 3) := by decide +kernel
theorem dX5_turn_80 : decode cX5_turn 80 = .ok (.goto (-71), 3) := by decide +kernel
theorem dX5_turn_83 : decode cX5_turn 83 = .ok (.return_, 1) := by decide +kernel
theorem dX7_add_0 : decode cX7_add 0 = .ok (.aload_n 0, 1) := by decide +kernel
theorem dX7_add_1 : decode cX7_add 1 = .ok (.getfield 18, 3) := by decide +kernel
theorem dX7_add_4 : decode cX7_add 4 = .ok (.bipush 8, 2) := by decide +kernel
theorem dX7_add_6 : decode cX7_add 6 = .ok (.if_icmp .ge 33, 3) := by decide +kernel
theorem dX7_add_9 : decode cX7_add 9 = .ok (.aload_n 0, 1) := by decide +kernel
theorem dX7_add_10 : decode cX7_add 10 = .ok (.getfield 9, 3) := by decide +kernel
theorem dX7_add_13 : decode cX7_add 13 = .ok (.aload_n 0, 1) := by decide +kernel
theorem dX7_add_14 : decode cX7_add 14 = .ok (.getfield 18, 3) := by decide +kernel
theorem dX7_add_17 : decode cX7_add 17 = .ok (.iload_n 1, 1) := by decide +kernel
theorem dX7_add_18 : decode cX7_add 18 = .ok (.iastore, 1) := by decide +kernel
theorem dX7_add_19 : decode cX7_add 19 = .ok (.aload_n 0, 1) := by decide +kernel
theorem dX7_add_20 : decode cX7_add 20 = .ok (.getfield 15, 3) := by decide +kernel
theorem dX7_add_23 : decode cX7_add 23 = .ok (.aload_n 0, 1) := by decide +kernel
theorem dX7_add_24 : decode cX7_add 24 = .ok (.getfield 18, 3) := by decide +kernel
theorem dX7_add_27 : decode cX7_add 27 = .ok (.iload_n 2, 1) := by decide +kernel
theorem dX7_add_28 : decode cX7_add 28 = .ok (.iastore, 1) := by decide +kernel
theorem dX7_add_29 : decode cX7_add 29 = .ok (.aload_n 0, 1) := by decide +kernel
theorem dX7_add_30 : decode cX7_add 30 = .ok (.dup, 1) := by decide +kernel
theorem dX7_add_31 : decode cX7_add 31 = .ok (.getfield 18, 3) := by decide +kernel
theorem dX7_add_34 : decode cX7_add 34 = .ok (.iconst 1, 1) := by decide +kernel
theorem dX7_add_35 : decode cX7_add 35 = .ok (.iadd, 1) := by decide +kernel
theorem dX7_add_36 : decode cX7_add 36 = .ok (.putfield 18, 3) := by decide +kernel
theorem dX7_add_39 : decode cX7_add 39 = .ok (.return_, 1) := by decide +kernel
theorem dX7_countOf_0 : decode cX7_countOf 0 = .ok (.iconst 0, 1) := by decide +kernel
theorem dX7_countOf_1 : decode cX7_countOf 1 = .ok (.istore_n 2, 1) := by decide +kernel
theorem dX7_countOf_2 : decode cX7_countOf 2 = .ok (.iconst 0, 1) := by decide +kernel
theorem dX7_countOf_3 : decode cX7_countOf 3 = .ok (.istore_n 3, 1) := by decide +kernel
theorem dX7_countOf_4 : decode cX7_countOf 4 = .ok (.iload_n 3, 1) := by decide +kernel
theorem dX7_countOf_5 : decode cX7_countOf 5 = .ok (.aload_n 0, 1) := by decide +kernel
theorem dX7_countOf_6 : decode cX7_countOf 6 = .ok (.getfield 18, 3) := by decide +kernel
theorem dX7_countOf_9 : decode cX7_countOf 9 = .ok (.if_icmp .ge 22, 3) := by decide +kernel
theorem dX7_countOf_12 : decode cX7_countOf 12 = .ok (.aload_n 0, 1) := by decide +kernel
theorem dX7_countOf_13 : decode cX7_countOf 13 = .ok (.getfield 9, 3) := by decide +kernel
theorem dX7_countOf_16 : decode cX7_countOf 16 = .ok (.iload_n 3, 1) := by decide +kernel
theorem dX7_countOf_17 : decode cX7_countOf 17 = .ok (.iaload, 1) := by decide +kernel
theorem dX7_countOf_18 : decode cX7_countOf 18 = .ok (.iload_n 1, 1) := by decide +kernel
theorem dX7_countOf_19 : decode cX7_countOf 19 = .ok (.if_icmp .ne 6, 3) := by decide +kernel
theorem dX7_countOf_22 : decode cX7_countOf 22 = .ok (.iinc 2 1, 3) := by decide +kernel
theorem dX7_countOf_25 : decode cX7_countOf 25 = .ok (.iinc 3 1, 3) := by decide +kernel
theorem dX7_countOf_28 : decode cX7_countOf 28 = .ok (.goto (-24), 3) := by decide +kernel
theorem dX7_countOf_31 : decode cX7_countOf 31 = .ok (.iload_n 2, 1) := by decide +kernel
theorem dX7_countOf_32 : decode cX7_countOf 32 = .ok (.ireturn, 1) := by decide +kernel
theorem dX7_countOfKind_0 : decode cX7_countOfKind 0 = .ok (.iconst 0, 1) := by decide +kernel
theorem dX7_countOfKind_1 : decode cX7_countOfKind 1 = .ok (.istore_n 2, 1) := by decide +kernel
theorem dX7_countOfKind_2 : decode cX7_countOfKind 2 = .ok (.iconst 0, 1) := by decide +kernel
theorem dX7_countOfKind_3 : decode cX7_countOfKind 3 = .ok (.istore_n 3, 1) := by decide +kernel
theorem dX7_countOfKind_4 : decode cX7_countOfKind 4 = .ok (.iload_n 3, 1) := by decide +kernel
theorem dX7_countOfKind_5 : decode cX7_countOfKind 5 = .ok (.aload_n 0, 1) := by decide +kernel
theorem dX7_countOfKind_6 : decode cX7_countOfKind 6 = .ok (.getfield 18, 3) := by decide +kernel
theorem dX7_countOfKind_9 : decode cX7_countOfKind 9 = .ok (.if_icmp .ge 25, 3) := by decide +kernel
theorem dX7_countOfKind_12 : decode cX7_countOfKind 12 = .ok (.aload_n 0, 1) := by decide +kernel
theorem dX7_countOfKind_13 : decode cX7_countOfKind 13 = .ok (.getfield 9, 3) := by decide +kernel
theorem dX7_countOfKind_16 : decode cX7_countOfKind 16 = .ok (.iload_n 3, 1) := by decide +kernel
theorem dX7_countOfKind_17 : decode cX7_countOfKind 17 = .ok (.iaload, 1) := by decide +kernel
theorem dX7_countOfKind_18 : decode cX7_countOfKind 18 = .ok (.invokestatic 22, 3) := by decide +kernel
theorem dX7_countOfKind_21 : decode cX7_countOfKind 21 = .ok (.iload_n 1, 1) := by decide +kernel
theorem dX7_countOfKind_22 : decode cX7_countOfKind 22 = .ok (.if_icmp .ne 6, 3) := by decide +kernel
theorem dX7_countOfKind_25 : decode cX7_countOfKind 25 = .ok (.iinc 2 1, 3) := by decide +kernel
theorem dX7_countOfKind_28 : decode cX7_countOfKind 28 = .ok (.iinc 3 1, 3) := by decide +kernel
theorem dX7_countOfKind_31 : decode cX7_countOfKind 31 = .ok (.goto (-27), 3) := by decide +kernel
theorem dX7_countOfKind_34 : decode cX7_countOfKind 34 = .ok (.iload_n 2, 1) := by decide +kernel
theorem dX7_countOfKind_35 : decode cX7_countOfKind 35 = .ok (.ireturn, 1) := by decide +kernel
theorem dX7_kindOf_0 : decode cX7_kindOf 0 = .ok (.iload_n 0, 1) := by decide +kernel
theorem dX7_kindOf_1 : decode cX7_kindOf 1 = .ok (.ifCond .ne 5, 3) := by decide +kernel
theorem dX7_kindOf_4 : decode cX7_kindOf 4 = .ok (.iconst 0, 1) := by decide +kernel
theorem dX7_kindOf_5 : decode cX7_kindOf 5 = .ok (.ireturn, 1) := by decide +kernel
theorem dX7_kindOf_6 : decode cX7_kindOf 6 = .ok (.iload_n 0, 1) := by decide +kernel
theorem dX7_kindOf_7 : decode cX7_kindOf 7 = .ok (.iconst 4, 1) := by decide +kernel
theorem dX7_kindOf_8 : decode cX7_kindOf 8 = .ok (.if_icmp .ge 7, 3) := by decide +kernel
theorem dX7_kindOf_11 : decode cX7_kindOf 11 = .ok (.iconst 1, 1) := by decide +kernel
theorem dX7_kindOf_12 : decode cX7_kindOf 12 = .ok (.goto 4, 3) := by decide +kernel
theorem dX7_kindOf_15 : decode cX7_kindOf 15 = .ok (.iconst 2, 1) := by decide +kernel
theorem dX7_kindOf_16 : decode cX7_kindOf 16 = .ok (.ireturn, 1) := by decide +kernel
theorem dX8_greatestLoss_0 : decode cX8_greatestLoss 0 = .ok (.iconst 0, 1) := by decide +kernel
theorem dX8_greatestLoss_1 : decode cX8_greatestLoss 1 = .ok (.istore_n 1, 1) := by decide +kernel
theorem dX8_greatestLoss_2 : decode cX8_greatestLoss 2 = .ok (.iconst 1, 1) := by decide +kernel
theorem dX8_greatestLoss_3 : decode cX8_greatestLoss 3 = .ok (.istore_n 2, 1) := by decide +kernel
theorem dX8_greatestLoss_4 : decode cX8_greatestLoss 4 = .ok (.iload_n 2, 1) := by decide +kernel
theorem dX8_greatestLoss_5 : decode cX8_greatestLoss 5 = .ok (.aload_n 0, 1) := by decide +kernel
theorem dX8_greatestLoss_6 : decode cX8_greatestLoss 6 = .ok (.getfield 47, 3) := by decide +kernel
theorem dX8_greatestLoss_9 : decode cX8_greatestLoss 9 = .ok (.if_icmp .ge 30, 3) := by decide +kernel
theorem dX8_greatestLoss_12 : decode cX8_greatestLoss 12 = .ok (.aload_n 0, 1) := by decide +kernel
theorem dX8_greatestLoss_13 : decode cX8_greatestLoss 13 = .ok (.getfield 31, 3) := by decide +kernel
theorem dX8_greatestLoss_16 : decode cX8_greatestLoss 16 = .ok (.iload_n 2, 1) := by decide +kernel
theorem dX8_greatestLoss_17 : decode cX8_greatestLoss 17 = .ok (.iaload, 1) := by decide +kernel
theorem dX8_greatestLoss_18 : decode cX8_greatestLoss 18 = .ok (.iconst 4, 1) := by decide +kernel
theorem dX8_greatestLoss_19 : decode cX8_greatestLoss 19 = .ok (.if_icmp .ge 14, 3) := by decide +kernel
theorem dX8_greatestLoss_22 : decode cX8_greatestLoss 22 = .ok (.iload_n 1, 1) := by decide +kernel
theorem dX8_greatestLoss_23 : decode cX8_greatestLoss 23 = .ok (.aload_n 0, 1) := by decide +kernel
theorem dX8_greatestLoss_24 : decode cX8_greatestLoss 24 = .ok (.getfield 31, 3) := by decide +kernel
theorem dX8_greatestLoss_27 : decode cX8_greatestLoss 27 = .ok (.iload_n 2, 1) := by decide +kernel
theorem dX8_greatestLoss_28 : decode cX8_greatestLoss 28 = .ok (.iaload, 1) := by decide +kernel
theorem dX8_greatestLoss_29 : decode cX8_greatestLoss 29 = .ok (.invokestatic 70, 3) := by decide +kernel
theorem dX8_greatestLoss_32 : decode cX8_greatestLoss 32 = .ok (.istore_n 1, 1) := by decide +kernel
theorem dX8_greatestLoss_33 : decode cX8_greatestLoss 33 = .ok (.iinc 2 1, 3) := by decide +kernel
theorem dX8_greatestLoss_36 : decode cX8_greatestLoss 36 = .ok (.goto (-32), 3) := by decide +kernel
theorem dX8_greatestLoss_39 : decode cX8_greatestLoss 39 = .ok (.iload_n 1, 1) := by decide +kernel
theorem dX8_greatestLoss_40 : decode cX8_greatestLoss 40 = .ok (.ireturn, 1) := by decide +kernel
theorem dX8_write_0 : decode cX8_write 0 = .ok (.aload_n 0, 1) := by decide +kernel
theorem dX8_write_1 : decode cX8_write 1 = .ok (.getfield 15, 3) := by decide +kernel
theorem dX8_write_4 : decode cX8_write 4 = .ok (.aload_n 0, 1) := by decide +kernel
theorem dX8_write_5 : decode cX8_write 5 = .ok (.getfield 11, 3) := by decide +kernel
theorem dX8_write_8 : decode cX8_write 8 = .ok (.arraylength, 1) := by decide +kernel
theorem dX8_write_9 : decode cX8_write 9 = .ok (.if_icmp .ge 23, 3) := by decide +kernel
theorem dX8_write_12 : decode cX8_write 12 = .ok (.aload_n 0, 1) := by decide +kernel
theorem dX8_write_13 : decode cX8_write 13 = .ok (.getfield 11, 3) := by decide +kernel
theorem dX8_write_16 : decode cX8_write 16 = .ok (.aload_n 0, 1) := by decide +kernel
theorem dX8_write_17 : decode cX8_write 17 = .ok (.getfield 15, 3) := by decide +kernel
theorem dX8_write_20 : decode cX8_write 20 = .ok (.iload_n 1, 1) := by decide +kernel
theorem dX8_write_21 : decode cX8_write 21 = .ok (.castore, 1) := by decide +kernel
theorem dX8_write_22 : decode cX8_write 22 = .ok (.aload_n 0, 1) := by decide +kernel
theorem dX8_write_23 : decode cX8_write 23 = .ok (.dup, 1) := by decide +kernel
theorem dX8_write_24 : decode cX8_write 24 = .ok (.getfield 15, 3) := by decide +kernel
theorem dX8_write_27 : decode cX8_write 27 = .ok (.iconst 1, 1) := by decide +kernel
theorem dX8_write_28 : decode cX8_write 28 = .ok (.iadd, 1) := by decide +kernel
theorem dX8_write_29 : decode cX8_write 29 = .ok (.putfield 15, 3) := by decide +kernel
theorem dX8_write_32 : decode cX8_write 32 = .ok (.return_, 1) := by decide +kernel
theorem dX8_writeComma_0 : decode cX8_writeComma 0 = .ok (.iload_n 1, 1) := by decide +kernel
theorem dX8_writeComma_1 : decode cX8_writeComma 1 = .ok (.ifCond .eq 9, 3) := by decide +kernel
theorem dX8_writeComma_4 : decode cX8_writeComma 4 = .ok (.aload_n 0, 1) := by decide +kernel
theorem dX8_writeComma_5 : decode cX8_writeComma 5 = .ok (.bipush 44, 2) := by decide +kernel
theorem dX8_writeComma_7 : decode cX8_writeComma 7 = .ok (.invokevirtual 43, 3) := by decide +kernel
theorem dX8_writeComma_10 : decode cX8_writeComma 10 = .ok (.return_, 1) := by decide +kernel
theorem dX8_writeLink_0 : decode cX8_writeLink 0 = .ok (.aload_n 0, 1) := by decide +kernel
theorem dX8_writeLink_1 : decode cX8_writeLink 1 = .ok (.aload_n 1, 1) := by decide +kernel
theorem dX8_writeLink_2 : decode cX8_writeLink 2 = .ok (.iload_n 2, 1) := by decide +kernel
theorem dX8_writeLink_3 : decode cX8_writeLink 3 = .ok (.iload_n 2, 1) := by decide +kernel
theorem dX8_writeLink_4 : decode cX8_writeLink 4 = .ok (.invokevirtual 62, 3) := by decide +kernel
theorem dX8_writeLink_7 : decode cX8_writeLink 7 = .ok (.iload 4, 2) := by decide +kernel
theorem dX8_writeLink_9 : decode cX8_writeLink 9 = .ok (.iconst 4, 1) := by decide +kernel
theorem dX8_writeLink_10 : decode cX8_writeLink 10 = .ok (.if_icmp .ge 20, 3) := by decide +kernel
theorem dX8_writeLink_13 : decode cX8_writeLink 13 = .ok (.aload_n 0, 1) := by decide +kernel
theorem dX8_writeLink_14 : decode cX8_writeLink 14 = .ok (.aload_n 1, 1) := by decide +kernel
theorem dX8_writeLink_15 : decode cX8_writeLink 15 = .ok (.iload_n 2, 1) := by decide +kernel
theorem dX8_writeLink_16 : decode cX8_writeLink 16 = .ok (.iload 4, 2) := by decide +kernel
theorem dX8_writeLink_18 : decode cX8_writeLink 18 = .ok (.iadd, 1) := by decide +kernel
theorem dX8_writeLink_19 : decode cX8_writeLink 19 = .ok (.iconst 1, 1) := by decide +kernel
theorem dX8_writeLink_20 : decode cX8_writeLink 20 = .ok (.iadd, 1) := by decide +kernel
theorem dX8_writeLink_21 : decode cX8_writeLink 21 = .ok (.iload_n 2, 1) := by decide +kernel
theorem dX8_writeLink_22 : decode cX8_writeLink 22 = .ok (.iload_n 3, 1) := by decide +kernel
theorem dX8_writeLink_23 : decode cX8_writeLink 23 = .ok (.iadd, 1) := by decide +kernel
theorem dX8_writeLink_24 : decode cX8_writeLink 24 = .ok (.invokevirtual 62, 3) := by decide +kernel
theorem dX8_writeLink_27 : decode cX8_writeLink 27 = .ok (.goto 20, 3) := by decide +kernel
theorem dX8_writeLink_30 : decode cX8_writeLink 30 = .ok (.aload_n 0, 1) := by decide +kernel
theorem dX8_writeLink_31 : decode cX8_writeLink 31 = .ok (.iload 4, 2) := by decide +kernel
theorem dX8_writeLink_33 : decode cX8_writeLink 33 = .ok (.invokevirtual 90, 3) := by decide +kernel
theorem dX8_writeLink_36 : decode cX8_writeLink 36 = .ok (.aload_n 0, 1) := by decide +kernel
theorem dX8_writeLink_37 : decode cX8_writeLink 37 = .ok (.aload_n 1, 1) := by decide +kernel
theorem dX8_writeLink_38 : decode cX8_writeLink 38 = .ok (.iload_n 2, 1) := by decide +kernel
theorem dX8_writeLink_39 : decode cX8_writeLink 39 = .ok (.iconst 1, 1) := by decide +kernel
theorem dX8_writeLink_40 : decode cX8_writeLink 40 = .ok (.iadd, 1) := by decide +kernel
theorem dX8_writeLink_41 : decode cX8_writeLink 41 = .ok (.iload_n 2, 1) := by decide +kernel
theorem dX8_writeLink_42 : decode cX8_writeLink 42 = .ok (.iload_n 3, 1) := by decide +kernel
theorem dX8_writeLink_43 : decode cX8_writeLink 43 = .ok (.iadd, 1) := by decide +kernel
theorem dX8_writeLink_44 : decode cX8_writeLink 44 = .ok (.invokevirtual 62, 3) := by decide +kernel
theorem dX8_writeLink_47 : decode cX8_writeLink 47 = .ok (.return_, 1) := by decide +kernel
theorem dX8_writeLinkSite_0 : decode cX8_writeLinkSite 0 = .ok (.aload_n 3, 1) := by decide +kernel
theorem dX8_writeLinkSite_1 : decode cX8_writeLinkSite 1 = .ok (.invokestatic 58, 3) := by decide +kernel
theorem dX8_writeLinkSite_4 : decode cX8_writeLinkSite 4 = .ok (.istore 4, 2) := by decide +kernel
theorem dX8_writeLinkSite_6 : decode cX8_writeLinkSite 6 = .ok (.aload_n 0, 1) := by decide +kernel
theorem dX8_writeLinkSite_7 : decode cX8_writeLinkSite 7 = .ok (.aload_n 1, 1) := by decide +kernel
theorem dX8_writeLinkSite_8 : decode cX8_writeLinkSite 8 = .ok (.iload_n 2, 1) := by decide +kernel
theorem dX8_writeLinkSite_9 : decode cX8_writeLinkSite 9 = .ok (.invokevirtual 25, 3) := by decide +kernel
theorem dX8_writeLinkSite_12 : decode cX8_writeLinkSite 12 = .ok (.aload_n 0, 1) := by decide +kernel
theorem dX8_writeLinkSite_13 : decode cX8_writeLinkSite 13 = .ok (.aload_n 1, 1) := by decide +kernel
theorem dX8_writeLinkSite_14 : decode cX8_writeLinkSite 14 = .ok (.iload_n 2, 1) := by decide +kernel
theorem dX8_writeLinkSite_15 : decode cX8_writeLinkSite 15 = .ok (.iload_n 2, 1) := by decide +kernel
theorem dX8_writeLinkSite_16 : decode cX8_writeLinkSite 16 = .ok (.iload 4, 2) := by decide +kernel
theorem dX8_writeLinkSite_18 : decode cX8_writeLinkSite 18 = .ok (.iadd, 1) := by decide +kernel
theorem dX8_writeLinkSite_19 : decode cX8_writeLinkSite 19 = .ok (.invokevirtual 62, 3) := by decide +kernel
theorem dX8_writeLinkSite_22 : decode cX8_writeLinkSite 22 = .ok (.aload_n 0, 1) := by decide +kernel
theorem dX8_writeLinkSite_23 : decode cX8_writeLinkSite 23 = .ok (.bipush 9, 2) := by decide +kernel
theorem dX8_writeLinkSite_25 : decode cX8_writeLinkSite 25 = .ok (.invokevirtual 43, 3) := by decide +kernel
theorem dX8_writeLinkSite_28 : decode cX8_writeLinkSite 28 = .ok (.iconst 1, 1) := by decide +kernel
theorem dX8_writeLinkSite_29 : decode cX8_writeLinkSite 29 = .ok (.istore 5, 2) := by decide +kernel
theorem dX8_writeLinkSite_31 : decode cX8_writeLinkSite 31 = .ok (.iload 5, 2) := by decide +kernel
theorem dX8_writeLinkSite_33 : decode cX8_writeLinkSite 33 = .ok (.aload_n 3, 1) := by decide +kernel
theorem dX8_writeLinkSite_34 : decode cX8_writeLinkSite 34 = .ok (.getfield 47, 3) := by decide +kernel
theorem dX8_writeLinkSite_37 : decode cX8_writeLinkSite 37 = .ok (.if_icmp .ge 39, 3) := by decide +kernel
theorem dX8_writeLinkSite_40 : decode cX8_writeLinkSite 40 = .ok (.aload_n 0, 1) := by decide +kernel
theorem dX8_writeLinkSite_41 : decode cX8_writeLinkSite 41 = .ok (.iload 5, 2) := by decide +kernel
theorem dX8_writeLinkSite_43 : decode cX8_writeLinkSite 43 = .ok (.iconst 1, 1) := by decide +kernel
theorem dX8_writeLinkSite_44 : decode cX8_writeLinkSite 44 = .ok (.if_icmp .le 7, 3) := by decide +kernel
theorem dX8_writeLinkSite_47 : decode cX8_writeLinkSite 47 = .ok (.iconst 1, 1) := by decide +kernel
theorem dX8_writeLinkSite_48 : decode cX8_writeLinkSite 48 = .ok (.goto 4, 3) := by decide +kernel
theorem dX8_writeLinkSite_51 : decode cX8_writeLinkSite 51 = .ok (.iconst 0, 1) := by decide +kernel
theorem dX8_writeLinkSite_52 : decode cX8_writeLinkSite 52 = .ok (.invokevirtual 50, 3) := by decide +kernel
theorem dX8_writeLinkSite_55 : decode cX8_writeLinkSite 55 = .ok (.aload_n 0, 1) := by decide +kernel
theorem dX8_writeLinkSite_56 : decode cX8_writeLinkSite 56 = .ok (.aload_n 1, 1) := by decide +kernel
theorem dX8_writeLinkSite_57 : decode cX8_writeLinkSite 57 = .ok (.iload_n 2, 1) := by decide +kernel
theorem dX8_writeLinkSite_58 : decode cX8_writeLinkSite 58 = .ok (.iload 4, 2) := by decide +kernel
theorem dX8_writeLinkSite_60 : decode cX8_writeLinkSite 60 = .ok (.aload_n 3, 1) := by decide +kernel
theorem dX8_writeLinkSite_61 : decode cX8_writeLinkSite 61 = .ok (.getfield 31, 3) := by decide +kernel
theorem dX8_writeLinkSite_64 : decode cX8_writeLinkSite 64 = .ok (.iload 5, 2) := by decide +kernel
theorem dX8_writeLinkSite_66 : decode cX8_writeLinkSite 66 = .ok (.iaload, 1) := by decide +kernel
theorem dX8_writeLinkSite_67 : decode cX8_writeLinkSite 67 = .ok (.invokevirtual 66, 3) := by decide +kernel
theorem dX8_writeLinkSite_70 : decode cX8_writeLinkSite 70 = .ok (.iinc 5 1, 3) := by decide +kernel
theorem dX8_writeLinkSite_73 : decode cX8_writeLinkSite 73 = .ok (.goto (-42), 3) := by decide +kernel
theorem dX8_writeLinkSite_76 : decode cX8_writeLinkSite 76 = .ok (.aload_n 0, 1) := by decide +kernel
theorem dX8_writeLinkSite_77 : decode cX8_writeLinkSite 77 = .ok (.aload_n 3, 1) := by decide +kernel
theorem dX8_writeLinkSite_78 : decode cX8_writeLinkSite 78 = .ok (.invokevirtual 54, 3) := by decide +kernel
theorem dX8_writeLinkSite_81 : decode cX8_writeLinkSite 81 = .ok (.return_, 1) := by decide +kernel
theorem dX8_writeNumber_0 : decode cX8_writeNumber 0 = .ok (.iconst 1, 1) := by decide +kernel
theorem dX8_writeNumber_1 : decode cX8_writeNumber 1 = .ok (.istore_n 2, 1) := by decide +kernel
theorem dX8_writeNumber_2 : decode cX8_writeNumber 2 = .ok (.iload_n 2, 1) := by decide +kernel
theorem dX8_writeNumber_3 : decode cX8_writeNumber 3 = .ok (.iload_n 1, 1) := by decide +kernel
theorem dX8_writeNumber_4 : decode cX8_writeNumber 4 = .ok (.bipush 10, 2) := by decide +kernel
theorem dX8_writeNumber_6 : decode cX8_writeNumber 6 = .ok (.idiv, 1) := by decide +kernel
theorem dX8_writeNumber_7 : decode cX8_writeNumber 7 = .ok (.if_icmp .gt 18, 3) := by decide +kernel
theorem dX8_writeNumber_10 : decode cX8_writeNumber 10 = .ok (.iload_n 2, 1) := by decide +kernel
theorem dX8_writeNumber_11 : decode cX8_writeNumber 11 = .ok (.sipush 1000, 3) := by decide +kernel
theorem dX8_writeNumber_14 : decode cX8_writeNumber 14 = .ok (.if_icmp .ge 11, 3) := by decide +kernel
theorem dX8_writeNumber_17 : decode cX8_writeNumber 17 = .ok (.iload_n 2, 1) := by decide +kernel
theorem dX8_writeNumber_18 : decode cX8_writeNumber 18 = .ok (.bipush 10, 2) := by decide +kernel
theorem dX8_writeNumber_20 : decode cX8_writeNumber 20 = .ok (.imul, 1) := by decide +kernel
theorem dX8_writeNumber_21 : decode cX8_writeNumber 21 = .ok (.istore_n 2, 1) := by decide +kernel
theorem dX8_writeNumber_22 : decode cX8_writeNumber 22 = .ok (.goto (-20), 3) := by decide +kernel
theorem dX8_writeNumber_25 : decode cX8_writeNumber 25 = .ok (.iload_n 2, 1) := by decide +kernel
theorem dX8_writeNumber_26 : decode cX8_writeNumber 26 = .ok (.istore_n 3, 1) := by decide +kernel
theorem dX8_writeNumber_27 : decode cX8_writeNumber 27 = .ok (.iload_n 3, 1) := by decide +kernel
theorem dX8_writeNumber_28 : decode cX8_writeNumber 28 = .ok (.ifCond .le 25, 3) := by decide +kernel
theorem dX8_writeNumber_31 : decode cX8_writeNumber 31 = .ok (.aload_n 0, 1) := by decide +kernel
theorem dX8_writeNumber_32 : decode cX8_writeNumber 32 = .ok (.bipush 48, 2) := by decide +kernel
theorem dX8_writeNumber_34 : decode cX8_writeNumber 34 = .ok (.iload_n 1, 1) := by decide +kernel
theorem dX8_writeNumber_35 : decode cX8_writeNumber 35 = .ok (.iload_n 3, 1) := by decide +kernel
theorem dX8_writeNumber_36 : decode cX8_writeNumber 36 = .ok (.idiv, 1) := by decide +kernel
theorem dX8_writeNumber_37 : decode cX8_writeNumber 37 = .ok (.bipush 10, 2) := by decide +kernel
theorem dX8_writeNumber_39 : decode cX8_writeNumber 39 = .ok (.irem, 1) := by decide +kernel
theorem dX8_writeNumber_40 : decode cX8_writeNumber 40 = .ok (.iadd, 1) := by decide +kernel
theorem dX8_writeNumber_41 : decode cX8_writeNumber 41 = .ok (.i2c, 1) := by decide +kernel
theorem dX8_writeNumber_42 : decode cX8_writeNumber 42 = .ok (.invokevirtual 43, 3) := by decide +kernel
theorem dX8_writeNumber_45 : decode cX8_writeNumber 45 = .ok (.iload_n 3, 1) := by decide +kernel
theorem dX8_writeNumber_46 : decode cX8_writeNumber 46 = .ok (.bipush 10, 2) := by decide +kernel
theorem dX8_writeNumber_48 : decode cX8_writeNumber 48 = .ok (.idiv, 1) := by decide +kernel
theorem dX8_writeNumber_49 : decode cX8_writeNumber 49 = .ok (.istore_n 3, 1) := by decide +kernel
theorem dX8_writeNumber_50 : decode cX8_writeNumber 50 = .ok (.goto (-23), 3) := by decide +kernel
theorem dX8_writeNumber_53 : decode cX8_writeNumber 53 = .ok (.return_, 1) := by decide +kernel
theorem dX9_allowed_0 : decode cX9_allowed 0 = .ok (.iload_n 0, 1) := by decide +kernel
theorem dX9_allowed_1 : decode cX9_allowed 1 = .ok (.bipush 10, 2) := by decide +kernel
theorem dX9_allowed_3 : decode cX9_allowed 3 = .ok (.if_icmp .eq 15, 3) := by decide +kernel
theorem dX9_allowed_6 : decode cX9_allowed 6 = .ok (.iload_n 0, 1) := by decide +kernel
theorem dX9_allowed_7 : decode cX9_allowed 7 = .ok (.bipush 32, 2) := by decide +kernel
theorem dX9_allowed_9 : decode cX9_allowed 9 = .ok (.if_icmp .lt 13, 3) := by decide +kernel
theorem dX9_allowed_12 : decode cX9_allowed 12 = .ok (.iload_n 0, 1) := by decide +kernel
theorem dX9_allowed_13 : decode cX9_allowed 13 = .ok (.bipush 126, 2) := by decide +kernel
theorem dX9_allowed_15 : decode cX9_allowed 15 = .ok (.if_icmp .gt 7, 3) := by decide +kernel
theorem dX9_allowed_18 : decode cX9_allowed 18 = .ok (.iconst 1, 1) := by decide +kernel
theorem dX9_allowed_19 : decode cX9_allowed 19 = .ok (.goto 4, 3) := by decide +kernel
theorem dX9_allowed_22 : decode cX9_allowed 22 = .ok (.iconst 0, 1) := by decide +kernel
theorem dX9_allowed_23 : decode cX9_allowed 23 = .ok (.ireturn, 1) := by decide +kernel
theorem dX9_append_0 : decode cX9_append 0 = .ok (.iload_n 2, 1) := by decide +kernel
theorem dX9_append_1 : decode cX9_append 1 = .ok (.iconst 1, 1) := by decide +kernel
theorem dX9_append_2 : decode cX9_append 2 = .ok (.if_icmp .lt 22, 3) := by decide +kernel
theorem dX9_append_5 : decode cX9_append 5 = .ok (.iload_n 2, 1) := by decide +kernel
theorem dX9_append_6 : decode cX9_append 6 = .ok (.iconst 4, 1) := by decide +kernel
theorem dX9_append_7 : decode cX9_append 7 = .ok (.if_icmp .gt 17, 3) := by decide +kernel
theorem dX9_append_10 : decode cX9_append 10 = .ok (.aload_n 0, 1) := by decide +kernel
theorem dX9_append_11 : decode cX9_append 11 = .ok (.getfield 7, 3) := by decide +kernel
theorem dX9_append_14 : decode cX9_append 14 = .ok (.iload_n 2, 1) := by decide +kernel
theorem dX9_append_15 : decode cX9_append 15 = .ok (.iadd, 1) := by decide +kernel
theorem dX9_append_16 : decode cX9_append 16 = .ok (.aload_n 0, 1) := by decide +kernel
theorem dX9_append_17 : decode cX9_append 17 = .ok (.getfield 13, 3) := by decide +kernel
theorem dX9_append_20 : decode cX9_append 20 = .ok (.arraylength, 1) := by decide +kernel
theorem dX9_append_21 : decode cX9_append 21 = .ok (.if_icmp .le 5, 3) := by decide +kernel
theorem dX9_append_24 : decode cX9_append 24 = .ok (.iconst 0, 1) := by decide +kernel
theorem dX9_append_25 : decode cX9_append 25 = .ok (.ireturn, 1) := by decide +kernel
theorem dX9_append_26 : decode cX9_append 26 = .ok (.iconst 0, 1) := by decide +kernel
theorem dX9_append_27 : decode cX9_append 27 = .ok (.istore_n 3, 1) := by decide +kernel
theorem dX9_append_28 : decode cX9_append 28 = .ok (.iload_n 3, 1) := by decide +kernel
theorem dX9_append_29 : decode cX9_append 29 = .ok (.iload_n 2, 1) := by decide +kernel
theorem dX9_append_30 : decode cX9_append 30 = .ok (.if_icmp .ge 22, 3) := by decide +kernel
theorem dX9_append_33 : decode cX9_append 33 = .ok (.iload_n 1, 1) := by decide +kernel
theorem dX9_append_34 : decode cX9_append 34 = .ok (.iload_n 3, 1) := by decide +kernel
theorem dX9_append_35 : decode cX9_append 35 = .ok (.invokestatic 17, 3) := by decide +kernel
theorem dX9_append_38 : decode cX9_append 38 = .ok (.invokestatic 21, 3) := by decide +kernel
theorem dX9_append_41 : decode cX9_append 41 = .ok (.ifCond .ne 5, 3) := by decide +kernel
theorem dX9_append_44 : decode cX9_append 44 = .ok (.iconst 0, 1) := by decide +kernel
theorem dX9_append_45 : decode cX9_append 45 = .ok (.ireturn, 1) := by decide +kernel
theorem dX9_append_46 : decode cX9_append 46 = .ok (.iinc 3 1, 3) := by decide +kernel
theorem dX9_append_49 : decode cX9_append 49 = .ok (.goto (-21), 3) := by decide +kernel
theorem dX9_append_52 : decode cX9_append 52 = .ok (.iload_n 2, 1) := by decide +kernel
theorem dX9_append_53 : decode cX9_append 53 = .ok (.iconst 1, 1) := by decide +kernel
theorem dX9_append_54 : decode cX9_append 54 = .ok (.isub, 1) := by decide +kernel
theorem dX9_append_55 : decode cX9_append 55 = .ok (.istore_n 3, 1) := by decide +kernel
theorem dX9_append_56 : decode cX9_append 56 = .ok (.iload_n 3, 1) := by decide +kernel
theorem dX9_append_57 : decode cX9_append 57 = .ok (.ifCond .lt 34, 3) := by decide +kernel
theorem dX9_append_60 : decode cX9_append 60 = .ok (.aload_n 0, 1) := by decide +kernel
theorem dX9_append_61 : decode cX9_append 61 = .ok (.getfield 13, 3) := by decide +kernel
theorem dX9_append_64 : decode cX9_append 64 = .ok (.aload_n 0, 1) := by decide +kernel
theorem dX9_append_65 : decode cX9_append 65 = .ok (.getfield 7, 3) := by decide +kernel
theorem dX9_append_68 : decode cX9_append 68 = .ok (.iload_n 1, 1) := by decide +kernel
theorem dX9_append_69 : decode cX9_append 69 = .ok (.iload_n 3, 1) := by decide +kernel
theorem dX9_append_70 : decode cX9_append 70 = .ok (.invokestatic 17, 3) := by decide +kernel
theorem dX9_append_73 : decode cX9_append 73 = .ok (.i2c, 1) := by decide +kernel
theorem dX9_append_74 : decode cX9_append 74 = .ok (.castore, 1) := by decide +kernel
theorem dX9_append_75 : decode cX9_append 75 = .ok (.aload_n 0, 1) := by decide +kernel
theorem dX9_append_76 : decode cX9_append 76 = .ok (.dup, 1) := by decide +kernel
theorem dX9_append_77 : decode cX9_append 77 = .ok (.getfield 7, 3) := by decide +kernel
theorem dX9_append_80 : decode cX9_append 80 = .ok (.iconst 1, 1) := by decide +kernel
theorem dX9_append_81 : decode cX9_append 81 = .ok (.iadd, 1) := by decide +kernel
theorem dX9_append_82 : decode cX9_append 82 = .ok (.putfield 7, 3) := by decide +kernel
theorem dX9_append_85 : decode cX9_append 85 = .ok (.iinc 3 (-1), 3) := by decide +kernel
theorem dX9_append_88 : decode cX9_append 88 = .ok (.goto (-32), 3) := by decide +kernel
theorem dX9_append_91 : decode cX9_append 91 = .ok (.iconst 1, 1) := by decide +kernel
theorem dX9_append_92 : decode cX9_append 92 = .ok (.ireturn, 1) := by decide +kernel
theorem dX9_byteOf_0 : decode cX9_byteOf 0 = .ok (.iload_n 0, 1) := by decide +kernel
theorem dX9_byteOf_1 : decode cX9_byteOf 1 = .ok (.bipush 8, 2) := by decide +kernel
theorem dX9_byteOf_3 : decode cX9_byteOf 3 = .ok (.iload_n 1, 1) := by decide +kernel
theorem dX9_byteOf_4 : decode cX9_byteOf 4 = .ok (.imul, 1) := by decide +kernel
theorem dX9_byteOf_5 : decode cX9_byteOf 5 = .ok (.iushr, 1) := by decide +kernel
theorem dX9_byteOf_6 : decode cX9_byteOf 6 = .ok (.sipush 255, 3) := by decide +kernel
theorem dX9_byteOf_9 : decode cX9_byteOf 9 = .ok (.iand, 1) := by decide +kernel
theorem dX9_byteOf_10 : decode cX9_byteOf 10 = .ok (.ireturn, 1) := by decide +kernel
theorem dX10_addAllele_0 : decode cX10_addAllele 0 = .ok (.iconst (-1), 1) := by decide +kernel
theorem dX10_addAllele_1 : decode cX10_addAllele 1 = .ok (.istore_n 1, 1) := by decide +kernel
theorem dX10_addAllele_2 : decode cX10_addAllele 2 = .ok (.iconst 0, 1) := by decide +kernel
theorem dX10_addAllele_3 : decode cX10_addAllele 3 = .ok (.istore_n 2, 1) := by decide +kernel
theorem dX10_addAllele_4 : decode cX10_addAllele 4 = .ok (.iload_n 2, 1) := by decide +kernel
theorem dX10_addAllele_5 : decode cX10_addAllele 5 = .ok (.bipush 104, 2) := by decide +kernel
theorem dX10_addAllele_7 : decode cX10_addAllele 7 = .ok (.if_icmp .ge 88, 3) := by decide +kernel
theorem dX10_addAllele_10 : decode cX10_addAllele 10 = .ok (.iconst 0, 1) := by decide +kernel
theorem dX10_addAllele_11 : decode cX10_addAllele 11 = .ok (.istore_n 3, 1) := by decide +kernel
theorem dX10_addAllele_12 : decode cX10_addAllele 12 = .ok (.iconst 0, 1) := by decide +kernel
theorem dX10_addAllele_13 : decode cX10_addAllele 13 = .ok (.istore 4, 2) := by decide +kernel
theorem dX10_addAllele_15 : decode cX10_addAllele 15 = .ok (.iload 4, 2) := by decide +kernel
theorem dX10_addAllele_17 : decode cX10_addAllele 17 = .ok (.aload_n 0, 1) := by decide +kernel
theorem dX10_addAllele_18 : decode cX10_addAllele 18 = .ok (.getfield 153, 3) := by decide +kernel
theorem dX10_addAllele_21 : decode cX10_addAllele 21 = .ok (.if_icmp .ge 30, 3) := by decide +kernel
theorem dX10_addAllele_24 : decode cX10_addAllele 24 = .ok (.iload_n 3, 1) := by decide +kernel
theorem dX10_addAllele_25 : decode cX10_addAllele 25 = .ok (.ifCond .ne 14, 3) := by decide +kernel
theorem dX10_addAllele_28 : decode cX10_addAllele 28 = .ok (.aload_n 0, 1) := by decide +kernel
theorem dX10_addAllele_29 : decode cX10_addAllele 29 = .ok (.getfield 80, 3) := by decide +kernel
theorem dX10_addAllele_32 : decode cX10_addAllele 32 = .ok (.iload 4, 2) := by decide +kernel
theorem dX10_addAllele_34 : decode cX10_addAllele 34 = .ok (.iaload, 1) := by decide +kernel
theorem dX10_addAllele_35 : decode cX10_addAllele 35 = .ok (.iload_n 2, 1) := by decide +kernel
theorem dX10_addAllele_36 : decode cX10_addAllele 36 = .ok (.if_icmp .ne 7, 3) := by decide +kernel
theorem dX10_addAllele_39 : decode cX10_addAllele 39 = .ok (.iconst 1, 1) := by decide +kernel
theorem dX10_addAllele_40 : decode cX10_addAllele 40 = .ok (.goto 4, 3) := by decide +kernel
theorem dX10_addAllele_43 : decode cX10_addAllele 43 = .ok (.iconst 0, 1) := by decide +kernel
theorem dX10_addAllele_44 : decode cX10_addAllele 44 = .ok (.istore_n 3, 1) := by decide +kernel
theorem dX10_addAllele_45 : decode cX10_addAllele 45 = .ok (.iinc 4 1, 3) := by decide +kernel
theorem dX10_addAllele_48 : decode cX10_addAllele 48 = .ok (.goto (-33), 3) := by decide +kernel
theorem dX10_addAllele_51 : decode cX10_addAllele 51 = .ok (.iload_n 3, 1) := by decide +kernel
theorem dX10_addAllele_52 : decode cX10_addAllele 52 = .ok (.ifCond .ne 35, 3) := by decide +kernel
theorem dX10_addAllele_55 : decode cX10_addAllele 55 = .ok (.aload_n 0, 1) := by decide +kernel
theorem dX10_addAllele_56 : decode cX10_addAllele 56 = .ok (.getfield 83, 3) := by decide +kernel
theorem dX10_addAllele_59 : decode cX10_addAllele 59 = .ok (.iload_n 2, 1) := by decide +kernel
theorem dX10_addAllele_60 : decode cX10_addAllele 60 = .ok (.iaload, 1) := by decide +kernel
theorem dX10_addAllele_61 : decode cX10_addAllele 61 = .ok (.ifCond .le 26, 3) := by decide +kernel
theorem dX10_addAllele_64 : decode cX10_addAllele 64 = .ok (.iload_n 1, 1) := by decide +kernel
theorem dX10_addAllele_65 : decode cX10_addAllele 65 = .ok (.ifCond .lt 18, 3) := by decide +kernel
theorem dX10_addAllele_68 : decode cX10_addAllele 68 = .ok (.aload_n 0, 1) := by decide +kernel
theorem dX10_addAllele_69 : decode cX10_addAllele 69 = .ok (.getfield 83, 3) := by decide +kernel
theorem dX10_addAllele_72 : decode cX10_addAllele 72 = .ok (.iload_n 2, 1) := by decide +kernel
theorem dX10_addAllele_73 : decode cX10_addAllele 73 = .ok (.iaload, 1) := by decide +kernel
theorem dX10_addAllele_74 : decode cX10_addAllele 74 = .ok (.aload_n 0, 1) := by decide +kernel
theorem dX10_addAllele_75 : decode cX10_addAllele 75 = .ok (.getfield 83, 3) := by decide +kernel
theorem dX10_addAllele_78 : decode cX10_addAllele 78 = .ok (.iload_n 1, 1) := by decide +kernel
theorem dX10_addAllele_79 : decode cX10_addAllele 79 = .ok (.iaload, 1) := by decide +kernel
theorem dX10_addAllele_80 : decode cX10_addAllele 80 = .ok (.if_icmp .le 7, 3) := by decide +kernel
theorem dX10_addAllele_83 : decode cX10_addAllele 83 = .ok (.iload_n 2, 1) := by decide +kernel
theorem dX10_addAllele_84 : decode cX10_addAllele 84 = .ok (.goto 4, 3) := by decide +kernel
theorem dX10_addAllele_87 : decode cX10_addAllele 87 = .ok (.iload_n 1, 1) := by decide +kernel
theorem dX10_addAllele_88 : decode cX10_addAllele 88 = .ok (.istore_n 1, 1) := by decide +kernel
theorem dX10_addAllele_89 : decode cX10_addAllele 89 = .ok (.iinc 2 1, 3) := by decide +kernel
theorem dX10_addAllele_92 : decode cX10_addAllele 92 = .ok (.goto (-88), 3) := by decide +kernel
theorem dX10_addAllele_95 : decode cX10_addAllele 95 = .ok (.iload_n 1, 1) := by decide +kernel
theorem dX10_addAllele_96 : decode cX10_addAllele 96 = .ok (.ifCond .lt 23, 3) := by decide +kernel
theorem dX10_addAllele_99 : decode cX10_addAllele 99 = .ok (.aload_n 0, 1) := by decide +kernel
theorem dX10_addAllele_100 : decode cX10_addAllele 100 = .ok (.getfield 80, 3) := by decide +kernel
theorem dX10_addAllele_103 : decode cX10_addAllele 103 = .ok (.aload_n 0, 1) := by decide +kernel
theorem dX10_addAllele_104 : decode cX10_addAllele 104 = .ok (.getfield 153, 3) := by decide +kernel
theorem dX10_addAllele_107 : decode cX10_addAllele 107 = .ok (.iload_n 1, 1) := by decide +kernel
theorem dX10_addAllele_108 : decode cX10_addAllele 108 = .ok (.iastore, 1) := by decide +kernel
theorem dX10_addAllele_109 : decode cX10_addAllele 109 = .ok (.aload_n 0, 1) := by decide +kernel
theorem dX10_addAllele_110 : decode cX10_addAllele 110 = .ok (.dup, 1) := by decide +kernel
theorem dX10_addAllele_111 : decode cX10_addAllele 111 = .ok (.getfield 153, 3) := by decide +kernel
theorem dX10_addAllele_114 : decode cX10_addAllele 114 = .ok (.iconst 1, 1) := by decide +kernel
theorem dX10_addAllele_115 : decode cX10_addAllele 115 = .ok (.iadd, 1) := by decide +kernel
theorem dX10_addAllele_116 : decode cX10_addAllele 116 = .ok (.putfield 153, 3) := by decide +kernel
theorem dX10_addAllele_119 : decode cX10_addAllele 119 = .ok (.return_, 1) := by decide +kernel
theorem dX10_behindName_0 : decode cX10_behindName 0 = .ok (.iconst 0, 1) := by decide +kernel
theorem dX10_behindName_1 : decode cX10_behindName 1 = .ok (.istore_n 3, 1) := by decide +kernel
theorem dX10_behindName_2 : decode cX10_behindName 2 = .ok (.iload_n 3, 1) := by decide +kernel
theorem dX10_behindName_3 : decode cX10_behindName 3 = .ok (.bipush 8, 2) := by decide +kernel
theorem dX10_behindName_5 : decode cX10_behindName 5 = .ok (.if_icmp .ge 23, 3) := by decide +kernel
theorem dX10_behindName_8 : decode cX10_behindName 8 = .ok (.aload_n 0, 1) := by decide +kernel
theorem dX10_behindName_9 : decode cX10_behindName 9 = .ok (.iload_n 1, 1) := by decide +kernel
theorem dX10_behindName_10 : decode cX10_behindName 10 = .ok (.iload_n 2, 1) := by decide +kernel
theorem dX10_behindName_11 : decode cX10_behindName 11 = .ok (.iload_n 3, 1) := by decide +kernel
theorem dX10_behindName_12 : decode cX10_behindName 12 = .ok (.iadd, 1) := by decide +kernel
theorem dX10_behindName_13 : decode cX10_behindName 13 = .ok (.invokevirtual 93, 3) := by decide +kernel
theorem dX10_behindName_16 : decode cX10_behindName 16 = .ok (.invokestatic 97, 3) := by decide +kernel
theorem dX10_behindName_19 : decode cX10_behindName 19 = .ok (.ifCond .eq 9, 3) := by decide +kernel
theorem dX10_behindName_22 : decode cX10_behindName 22 = .ok (.iinc 3 1, 3) := by decide +kernel
theorem dX10_behindName_25 : decode cX10_behindName 25 = .ok (.goto (-23), 3) := by decide +kernel
theorem dX10_behindName_28 : decode cX10_behindName 28 = .ok (.iload_n 3, 1) := by decide +kernel
theorem dX10_behindName_29 : decode cX10_behindName 29 = .ok (.ifCond .eq 16, 3) := by decide +kernel
theorem dX10_behindName_32 : decode cX10_behindName 32 = .ok (.aload_n 0, 1) := by decide +kernel
theorem dX10_behindName_33 : decode cX10_behindName 33 = .ok (.iload_n 1, 1) := by decide +kernel
theorem dX10_behindName_34 : decode cX10_behindName 34 = .ok (.iload_n 2, 1) := by decide +kernel
theorem dX10_behindName_35 : decode cX10_behindName 35 = .ok (.iload_n 3, 1) := by decide +kernel
theorem dX10_behindName_36 : decode cX10_behindName 36 = .ok (.iadd, 1) := by decide +kernel
theorem dX10_behindName_37 : decode cX10_behindName 37 = .ok (.invokevirtual 93, 3) := by decide +kernel
theorem dX10_behindName_40 : decode cX10_behindName 40 = .ok (.bipush 10, 2) := by decide +kernel
theorem dX10_behindName_42 : decode cX10_behindName 42 = .ok (.if_icmp .eq 13, 3) := by decide +kernel
theorem dX10_behindName_45 : decode cX10_behindName 45 = .ok (.iload_n 2, 1) := by decide +kernel
theorem dX10_behindName_46 : decode cX10_behindName 46 = .ok (.iload_n 3, 1) := by decide +kernel
theorem dX10_behindName_47 : decode cX10_behindName 47 = .ok (.iadd, 1) := by decide +kernel
theorem dX10_behindName_48 : decode cX10_behindName 48 = .ok (.sipush 1000, 3) := by decide +kernel
theorem dX10_behindName_51 : decode cX10_behindName 51 = .ok (.isub, 1) := by decide +kernel
theorem dX10_behindName_52 : decode cX10_behindName 52 = .ok (.goto 8, 3) := by decide +kernel
theorem dX10_behindName_55 : decode cX10_behindName 55 = .ok (.iload_n 2, 1) := by decide +kernel
theorem dX10_behindName_56 : decode cX10_behindName 56 = .ok (.iload_n 3, 1) := by decide +kernel
theorem dX10_behindName_57 : decode cX10_behindName 57 = .ok (.iadd, 1) := by decide +kernel
theorem dX10_behindName_58 : decode cX10_behindName 58 = .ok (.iconst 1, 1) := by decide +kernel
theorem dX10_behindName_59 : decode cX10_behindName 59 = .ok (.iadd, 1) := by decide +kernel
theorem dX10_behindName_60 : decode cX10_behindName 60 = .ok (.ireturn, 1) := by decide +kernel
theorem dX10_call_0 : decode cX10_call 0 = .ok (.iload_n 1, 1) := by decide +kernel
theorem dX10_call_1 : decode cX10_call 1 = .ok (.iconst 0, 1) := by decide +kernel
theorem dX10_call_2 : decode cX10_call 2 = .ok (.iconst 3, 1) := by decide +kernel
theorem dX10_call_3 : decode cX10_call 3 = .ok (.invokestatic 89, 3) := by decide +kernel
theorem dX10_call_6 : decode cX10_call 6 = .ok (.ifCond .eq 5, 3) := by decide +kernel
theorem dX10_call_9 : decode cX10_call 9 = .ok (.iconst (-1), 1) := by decide +kernel
theorem dX10_call_10 : decode cX10_call 10 = .ok (.ireturn, 1) := by decide +kernel
theorem dX10_call_11 : decode cX10_call 11 = .ok (.aload_n 0, 1) := by decide +kernel
theorem dX10_call_12 : decode cX10_call 12 = .ok (.invokevirtual 194, 3) := by decide +kernel
theorem dX10_call_15 : decode cX10_call 15 = .ok (.istore_n 2, 1) := by decide +kernel
theorem dX10_call_16 : decode cX10_call 16 = .ok (.iload_n 2, 1) := by decide +kernel
theorem dX10_call_17 : decode cX10_call 17 = .ok (.ifCond .lt 9, 3) := by decide +kernel
theorem dX10_call_20 : decode cX10_call 20 = .ok (.sipush (-1000), 3) := by decide +kernel
theorem dX10_call_23 : decode cX10_call 23 = .ok (.iload_n 2, 1) := by decide +kernel
theorem dX10_call_24 : decode cX10_call 24 = .ok (.isub, 1) := by decide +kernel
theorem dX10_call_25 : decode cX10_call 25 = .ok (.ireturn, 1) := by decide +kernel
theorem dX10_call_26 : decode cX10_call 26 = .ok (.aload_n 0, 1) := by decide +kernel
theorem dX10_call_27 : decode cX10_call 27 = .ok (.invokevirtual 197, 3) := by decide +kernel
theorem dX10_call_30 : decode cX10_call 30 = .ok (.istore_n 2, 1) := by decide +kernel
theorem dX10_call_31 : decode cX10_call 31 = .ok (.iload_n 2, 1) := by decide +kernel
theorem dX10_call_32 : decode cX10_call 32 = .ok (.ifCond .lt 9, 3) := by decide +kernel
theorem dX10_call_35 : decode cX10_call 35 = .ok (.sipush (-2000), 3) := by decide +kernel
theorem dX10_call_38 : decode cX10_call 38 = .ok (.iload_n 2, 1) := by decide +kernel
theorem dX10_call_39 : decode cX10_call 39 = .ok (.isub, 1) := by decide +kernel
theorem dX10_call_40 : decode cX10_call 40 = .ok (.ireturn, 1) := by decide +kernel
theorem dX10_call_41 : decode cX10_call 41 = .ok (.aload_n 0, 1) := by decide +kernel
theorem dX10_call_42 : decode cX10_call 42 = .ok (.invokevirtual 200, 3) := by decide +kernel
theorem dX10_call_45 : decode cX10_call 45 = .ok (.aload_n 0, 1) := by decide +kernel
theorem dX10_call_46 : decode cX10_call 46 = .ok (.iconst 1, 1) := by decide +kernel
theorem dX10_call_47 : decode cX10_call 47 = .ok (.putfield 203, 3) := by decide +kernel
theorem dX10_call_50 : decode cX10_call 50 = .ok (.aload_n 0, 1) := by decide +kernel
theorem dX10_call_51 : decode cX10_call 51 = .ok (.iconst 0, 1) := by decide +kernel
theorem dX10_call_52 : decode cX10_call 52 = .ok (.putfield 146, 3) := by decide +kernel
theorem dX10_call_55 : decode cX10_call 55 = .ok (.aload_n 0, 1) := by decide +kernel
theorem dX10_call_56 : decode cX10_call 56 = .ok (.iconst 0, 1) := by decide +kernel
theorem dX10_call_57 : decode cX10_call 57 = .ok (.putfield 133, 3) := by decide +kernel
theorem dX10_call_60 : decode cX10_call 60 = .ok (.iconst 0, 1) := by decide +kernel
theorem dX10_call_61 : decode cX10_call 61 = .ok (.istore_n 3, 1) := by decide +kernel
theorem dX10_call_62 : decode cX10_call 62 = .ok (.iload_n 3, 1) := by decide +kernel
theorem dX10_call_63 : decode cX10_call 63 = .ok (.aload_n 0, 1) := by decide +kernel
theorem dX10_call_64 : decode cX10_call 64 = .ok (.getfield 123, 3) := by decide +kernel
theorem dX10_call_67 : decode cX10_call 67 = .ok (.if_icmp .ge 34, 3) := by decide +kernel
theorem dX10_call_70 : decode cX10_call 70 = .ok (.aload_n 0, 1) := by decide +kernel
theorem dX10_call_71 : decode cX10_call 71 = .ok (.iload_n 3, 1) := by decide +kernel
theorem dX10_call_72 : decode cX10_call 72 = .ok (.iload_n 1, 1) := by decide +kernel
theorem dX10_call_73 : decode cX10_call 73 = .ok (.invokevirtual 206, 3) := by decide +kernel
theorem dX10_call_76 : decode cX10_call 76 = .ok (.aload_n 0, 1) := by decide +kernel
theorem dX10_call_77 : decode cX10_call 77 = .ok (.getfield 32, 3) := by decide +kernel
theorem dX10_call_80 : decode cX10_call 80 = .ok (.iload_n 3, 1) := by decide +kernel
theorem dX10_call_81 : decode cX10_call 81 = .ok (.iaload, 1) := by decide +kernel
theorem dX10_call_82 : decode cX10_call 82 = .ok (.ifCond .ne 13, 3) := by decide +kernel
theorem dX10_call_85 : decode cX10_call 85 = .ok (.aload_n 0, 1) := by decide +kernel
theorem dX10_call_86 : decode cX10_call 86 = .ok (.iload_n 3, 1) := by decide +kernel
theorem dX10_call_87 : decode cX10_call 87 = .ok (.invokevirtual 209, 3) := by decide +kernel
theorem dX10_call_90 : decode cX10_call 90 = .ok (.aload_n 0, 1) := by decide +kernel
theorem dX10_call_91 : decode cX10_call 91 = .ok (.iload_n 3, 1) := by decide +kernel
theorem dX10_call_92 : decode cX10_call 92 = .ok (.invokevirtual 213, 3) := by decide +kernel
theorem dX10_call_95 : decode cX10_call 95 = .ok (.iinc 3 1, 3) := by decide +kernel
theorem dX10_call_98 : decode cX10_call 98 = .ok (.goto (-36), 3) := by decide +kernel
theorem dX10_call_101 : decode cX10_call 101 = .ok (.iconst 0, 1) := by decide +kernel
theorem dX10_call_102 : decode cX10_call 102 = .ok (.istore_n 3, 1) := by decide +kernel
theorem dX10_call_103 : decode cX10_call 103 = .ok (.iconst 0, 1) := by decide +kernel
theorem dX10_call_104 : decode cX10_call 104 = .ok (.istore 4, 2) := by decide +kernel
theorem dX10_call_106 : decode cX10_call 106 = .ok (.iload 4, 2) := by decide +kernel
theorem dX10_call_108 : decode cX10_call 108 = .ok (.aload_n 0, 1) := by decide +kernel
theorem dX10_call_109 : decode cX10_call 109 = .ok (.getfield 120, 3) := by decide +kernel
theorem dX10_call_112 : decode cX10_call 112 = .ok (.if_icmp .ge 45, 3) := by decide +kernel
theorem dX10_call_115 : decode cX10_call 115 = .ok (.iload_n 3, 1) := by decide +kernel
theorem dX10_call_116 : decode cX10_call 116 = .ok (.aload_n 0, 1) := by decide +kernel
theorem dX10_call_117 : decode cX10_call 117 = .ok (.iconst 0, 1) := by decide +kernel
theorem dX10_call_118 : decode cX10_call 118 = .ok (.iload 4, 2) := by decide +kernel
theorem dX10_call_120 : decode cX10_call 120 = .ok (.invokevirtual 216, 3) := by decide +kernel
theorem dX10_call_123 : decode cX10_call 123 = .ok (.ifCond .eq 7, 3) := by decide +kernel
theorem dX10_call_126 : decode cX10_call 126 = .ok (.iconst 1, 1) := by decide +kernel
theorem dX10_call_127 : decode cX10_call 127 = .ok (.goto 4, 3) := by decide +kernel
theorem dX10_call_130 : decode cX10_call 130 = .ok (.iconst 0, 1) := by decide +kernel
theorem dX10_call_131 : decode cX10_call 131 = .ok (.iadd, 1) := by decide +kernel
theorem dX10_call_132 : decode cX10_call 132 = .ok (.istore_n 3, 1) := by decide +kernel
theorem dX10_call_133 : decode cX10_call 133 = .ok (.iload_n 3, 1) := by decide +kernel
theorem dX10_call_134 : decode cX10_call 134 = .ok (.aload_n 0, 1) := by decide +kernel
theorem dX10_call_135 : decode cX10_call 135 = .ok (.iconst 1, 1) := by decide +kernel
theorem dX10_call_136 : decode cX10_call 136 = .ok (.iload 4, 2) := by decide +kernel
theorem dX10_call_138 : decode cX10_call 138 = .ok (.invokevirtual 216, 3) := by decide +kernel
theorem dX10_call_141 : decode cX10_call 141 = .ok (.ifCond .eq 7, 3) := by decide +kernel
theorem dX10_call_144 : decode cX10_call 144 = .ok (.iconst 1, 1) := by decide +kernel
theorem dX10_call_145 : decode cX10_call 145 = .ok (.goto 4, 3) := by decide +kernel
theorem dX10_call_148 : decode cX10_call 148 = .ok (.iconst 0, 1) := by decide +kernel
theorem dX10_call_149 : decode cX10_call 149 = .ok (.iadd, 1) := by decide +kernel
theorem dX10_call_150 : decode cX10_call 150 = .ok (.istore_n 3, 1) := by decide +kernel
theorem dX10_call_151 : decode cX10_call 151 = .ok (.iinc 4 1, 3) := by decide +kernel
theorem dX10_call_154 : decode cX10_call 154 = .ok (.goto (-48), 3) := by decide +kernel
theorem dX10_call_157 : decode cX10_call 157 = .ok (.iload_n 3, 1) := by decide +kernel
theorem dX10_call_158 : decode cX10_call 158 = .ok (.ireturn, 1) := by decide +kernel
theorem dX10_clear_0 : decode cX10_clear 0 = .ok (.iload_n 1, 1) := by decide +kernel
theorem dX10_clear_1 : decode cX10_clear 1 = .ok (.iconst 0, 1) := by decide +kernel
theorem dX10_clear_2 : decode cX10_clear 2 = .ok (.iconst 1, 1) := by decide +kernel
theorem dX10_clear_3 : decode cX10_clear 3 = .ok (.invokestatic 89, 3) := by decide +kernel
theorem dX10_clear_6 : decode cX10_clear 6 = .ok (.ifCond .eq 5, 3) := by decide +kernel
theorem dX10_clear_9 : decode cX10_clear 9 = .ok (.iconst 0, 1) := by decide +kernel
theorem dX10_clear_10 : decode cX10_clear 10 = .ok (.ireturn, 1) := by decide +kernel
theorem dX10_clear_11 : decode cX10_clear 11 = .ok (.aload_n 0, 1) := by decide +kernel
theorem dX10_clear_12 : decode cX10_clear 12 = .ok (.getfield 13, 3) := by decide +kernel
theorem dX10_clear_15 : decode cX10_clear 15 = .ok (.iload_n 1, 1) := by decide +kernel
theorem dX10_clear_16 : decode cX10_clear 16 = .ok (.iconst 0, 1) := by decide +kernel
theorem dX10_clear_17 : decode cX10_clear 17 = .ok (.iastore, 1) := by decide +kernel
theorem dX10_clear_18 : decode cX10_clear 18 = .ok (.iconst 1, 1) := by decide +kernel
theorem dX10_clear_19 : decode cX10_clear 19 = .ok (.ireturn, 1) := by decide +kernel
theorem dX10_codeAt_0 : decode cX10_codeAt 0 = .ok (.aload_n 0, 1) := by decide +kernel
theorem dX10_codeAt_1 : decode cX10_codeAt 1 = .ok (.getfield 149, 3) := by decide +kernel
theorem dX10_codeAt_4 : decode cX10_codeAt 4 = .ok (.ifCond .eq 12, 3) := by decide +kernel
theorem dX10_codeAt_7 : decode cX10_codeAt 7 = .ok (.aload_n 0, 1) := by decide +kernel
theorem dX10_codeAt_8 : decode cX10_codeAt 8 = .ok (.getfield 74, 3) := by decide +kernel
theorem dX10_codeAt_11 : decode cX10_codeAt 11 = .ok (.iload_n 1, 1) := by decide +kernel
theorem dX10_codeAt_12 : decode cX10_codeAt 12 = .ok (.iaload, 1) := by decide +kernel
theorem dX10_codeAt_13 : decode cX10_codeAt 13 = .ok (.goto 9, 3) := by decide +kernel
theorem dX10_codeAt_16 : decode cX10_codeAt 16 = .ok (.aload_n 0, 1) := by decide +kernel
theorem dX10_codeAt_17 : decode cX10_codeAt 17 = .ok (.getfield 65, 3) := by decide +kernel
theorem dX10_codeAt_20 : decode cX10_codeAt 20 = .ok (.iload_n 1, 1) := by decide +kernel
theorem dX10_codeAt_21 : decode cX10_codeAt 21 = .ok (.iaload, 1) := by decide +kernel
theorem dX10_codeAt_22 : decode cX10_codeAt 22 = .ok (.ireturn, 1) := by decide +kernel
theorem dX10_codeOf_0 : decode cX10_codeOf 0 = .ok (.iload_n 0, 1) := by decide +kernel
theorem dX10_codeOf_1 : decode cX10_codeOf 1 = .ok (.bipush 65, 2) := by decide +kernel
theorem dX10_codeOf_3 : decode cX10_codeOf 3 = .ok (.if_icmp .ne 7, 3) := by decide +kernel
theorem dX10_codeOf_6 : decode cX10_codeOf 6 = .ok (.iconst 0, 1) := by decide +kernel
theorem dX10_codeOf_7 : decode cX10_codeOf 7 = .ok (.goto 44, 3) := by decide +kernel
theorem dX10_codeOf_10 : decode cX10_codeOf 10 = .ok (.iload_n 0, 1) := by decide +kernel
theorem dX10_codeOf_11 : decode cX10_codeOf 11 = .ok (.bipush 67, 2) := by decide +kernel
theorem dX10_codeOf_13 : decode cX10_codeOf 13 = .ok (.if_icmp .ne 7, 3) := by decide +kernel
theorem dX10_codeOf_16 : decode cX10_codeOf 16 = .ok (.iconst 1, 1) := by decide +kernel
theorem dX10_codeOf_17 : decode cX10_codeOf 17 = .ok (.goto 34, 3) := by decide +kernel
theorem dX10_codeOf_20 : decode cX10_codeOf 20 = .ok (.iload_n 0, 1) := by decide +kernel
theorem dX10_codeOf_21 : decode cX10_codeOf 21 = .ok (.bipush 71, 2) := by decide +kernel
theorem dX10_codeOf_23 : decode cX10_codeOf 23 = .ok (.if_icmp .ne 7, 3) := by decide +kernel
theorem dX10_codeOf_26 : decode cX10_codeOf 26 = .ok (.iconst 2, 1) := by decide +kernel
theorem dX10_codeOf_27 : decode cX10_codeOf 27 = .ok (.goto 24, 3) := by decide +kernel
theorem dX10_codeOf_30 : decode cX10_codeOf 30 = .ok (.iload_n 0, 1) := by decide +kernel
theorem dX10_codeOf_31 : decode cX10_codeOf 31 = .ok (.bipush 84, 2) := by decide +kernel
theorem dX10_codeOf_33 : decode cX10_codeOf 33 = .ok (.if_icmp .ne 7, 3) := by decide +kernel
theorem dX10_codeOf_36 : decode cX10_codeOf 36 = .ok (.iconst 3, 1) := by decide +kernel
theorem dX10_codeOf_37 : decode cX10_codeOf 37 = .ok (.goto 14, 3) := by decide +kernel
theorem dX10_codeOf_40 : decode cX10_codeOf 40 = .ok (.iload_n 0, 1) := by decide +kernel
theorem dX10_codeOf_41 : decode cX10_codeOf 41 = .ok (.bipush 78, 2) := by decide +kernel
theorem dX10_codeOf_43 : decode cX10_codeOf 43 = .ok (.if_icmp .ne 7, 3) := by decide +kernel
theorem dX10_codeOf_46 : decode cX10_codeOf 46 = .ok (.iconst 4, 1) := by decide +kernel
theorem dX10_codeOf_47 : decode cX10_codeOf 47 = .ok (.goto 4, 3) := by decide +kernel
theorem dX10_codeOf_50 : decode cX10_codeOf 50 = .ok (.iconst (-1), 1) := by decide +kernel
theorem dX10_codeOf_51 : decode cX10_codeOf 51 = .ok (.ireturn, 1) := by decide +kernel

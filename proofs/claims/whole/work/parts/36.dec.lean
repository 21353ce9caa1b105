theorem dJ_isLatin1_0 : decode cJ_isLatin1 0 = .ok (.getstatic 38, 3) := by decide +kernel
theorem dJ_isLatin1_3 : decode cJ_isLatin1 3 = .ok (.ifCond .eq 14, 3) := by decide +kernel
theorem dJ_isLatin1_6 : decode cJ_isLatin1 6 = .ok (.aload_n 0, 1) := by decide +kernel
theorem dJ_isLatin1_7 : decode cJ_isLatin1 7 = .ok (.getfield 15, 3) := by decide +kernel
theorem dJ_isLatin1_10 : decode cJ_isLatin1 10 = .ok (.ifCond .ne 7, 3) := by decide +kernel
theorem dJ_isLatin1_13 : decode cJ_isLatin1 13 = .ok (.iconst 1, 1) := by decide +kernel
theorem dJ_isLatin1_14 : decode cJ_isLatin1 14 = .ok (.goto 4, 3) := by decide +kernel
theorem dJ_isLatin1_17 : decode cJ_isLatin1 17 = .ok (.iconst 0, 1) := by decide +kernel
theorem dJ_isLatin1_18 : decode cJ_isLatin1 18 = .ok (.ireturn, 1) := by decide +kernel
theorem dJ_length_0 : decode cJ_length 0 = .ok (.aload_n 0, 1) := by decide +kernel
theorem dJ_length_1 : decode cJ_length 1 = .ok (.getfield 9, 3) := by decide +kernel
theorem dJ_length_4 : decode cJ_length 4 = .ok (.arraylength, 1) := by decide +kernel
theorem dJ_length_5 : decode cJ_length 5 = .ok (.aload_n 0, 1) := by decide +kernel
theorem dJ_length_6 : decode cJ_length 6 = .ok (.invokevirtual 335, 3) := by decide +kernel
theorem dJ_length_9 : decode cJ_length 9 = .ok (.ishr, 1) := by decide +kernel
theorem dJ_length_10 : decode cJ_length 10 = .ok (.ireturn, 1) := by decide +kernel
theorem dJ_coder_0 : decode cJ_coder 0 = .ok (.getstatic 38, 3) := by decide +kernel
theorem dJ_coder_3 : decode cJ_coder 3 = .ok (.ifCond .eq 10, 3) := by decide +kernel
theorem dJ_coder_6 : decode cJ_coder 6 = .ok (.aload_n 0, 1) := by decide +kernel
theorem dJ_coder_7 : decode cJ_coder 7 = .ok (.getfield 15, 3) := by decide +kernel
theorem dJ_coder_10 : decode cJ_coder 10 = .ok (.goto 4, 3) := by decide +kernel
theorem dJ_coder_13 : decode cJ_coder 13 = .ok (.iconst 1, 1) := by decide +kernel
theorem dJ_coder_14 : decode cJ_coder 14 = .ok (.ireturn, 1) := by decide +kernel
theorem dJ_charAt_0 : decode cJ_charAt 0 = .ok (.aload_n 0, 1) := by decide +kernel
theorem dJ_charAt_1 : decode cJ_charAt 1 = .ok (.invokevirtual 492, 3) := by decide +kernel
theorem dJ_charAt_4 : decode cJ_charAt 4 = .ok (.ifCond .eq 12, 3) := by decide +kernel
theorem dJ_charAt_7 : decode cJ_charAt 7 = .ok (.aload_n 0, 1) := by decide +kernel
theorem dJ_charAt_8 : decode cJ_charAt 8 = .ok (.getfield 9, 3) := by decide +kernel
theorem dJ_charAt_11 : decode cJ_charAt 11 = .ok (.iload_n 1, 1) := by decide +kernel
theorem dJ_charAt_12 : decode cJ_charAt 12 = .ok (.invokestatic 495, 3) := by decide +kernel
theorem dJ_charAt_15 : decode cJ_charAt 15 = .ok (.ireturn, 1) := by decide +kernel
theorem dJ_charAt_16 : decode cJ_charAt 16 = .ok (.aload_n 0, 1) := by decide +kernel
theorem dJ_charAt_17 : decode cJ_charAt 17 = .ok (.getfield 9, 3) := by decide +kernel
theorem dJ_charAt_20 : decode cJ_charAt 20 = .ok (.iload_n 1, 1) := by decide +kernel
theorem dJ_charAt_21 : decode cJ_charAt 21 = .ok (.invokestatic 498, 3) := by decide +kernel
theorem dJ_charAt_24 : decode cJ_charAt 24 = .ok (.ireturn, 1) := by decide +kernel
theorem dJ_indexOf_0 : decode cJ_indexOf 0 = .ok (.aload_n 0, 1) := by decide +kernel
theorem dJ_indexOf_1 : decode cJ_indexOf 1 = .ok (.iload_n 1, 1) := by decide +kernel
theorem dJ_indexOf_2 : decode cJ_indexOf 2 = .ok (.iconst 0, 1) := by decide +kernel
theorem dJ_indexOf_3 : decode cJ_indexOf 3 = .ok (.invokevirtual 633, 3) := by decide +kernel
theorem dJ_indexOf_6 : decode cJ_indexOf 6 = .ok (.ireturn, 1) := by decide +kernel
theorem dJ_indexOfFrom_0 : decode cJ_indexOfFrom 0 = .ok (.aload_n 0, 1) := by decide +kernel
theorem dJ_indexOfFrom_1 : decode cJ_indexOfFrom 1 = .ok (.invokevirtual 492, 3) := by decide +kernel
theorem dJ_indexOfFrom_4 : decode cJ_indexOfFrom 4 = .ok (.ifCond .eq 19, 3) := by decide +kernel
theorem dJ_indexOfFrom_7 : decode cJ_indexOfFrom 7 = .ok (.aload_n 0, 1) := by decide +kernel
theorem dJ_indexOfFrom_8 : decode cJ_indexOfFrom 8 = .ok (.getfield 9, 3) := by decide +kernel
theorem dJ_indexOfFrom_11 : decode cJ_indexOfFrom 11 = .ok (.iload_n 1, 1) := by decide +kernel
theorem dJ_indexOfFrom_12 : decode cJ_indexOfFrom 12 = .ok (.iload_n 2, 1) := by decide +kernel
theorem dJ_indexOfFrom_13 : decode cJ_indexOfFrom 13 = .ok (.aload_n 0, 1) := by decide +kernel
theorem dJ_indexOfFrom_14 : decode cJ_indexOfFrom 14 = .ok (.invokevirtual 505, 3) := by decide +kernel
theorem dJ_indexOfFrom_17 : decode cJ_indexOfFrom 17 = .ok (.invokestatic 637, 3) := by decide +kernel
theorem dJ_indexOfFrom_20 : decode cJ_indexOfFrom 20 = .ok (.goto 16, 3) := by decide +kernel
theorem dJ_indexOfFrom_23 : decode cJ_indexOfFrom 23 = .ok (.aload_n 0, 1) := by decide +kernel
theorem dJ_indexOfFrom_24 : decode cJ_indexOfFrom 24 = .ok (.getfield 9, 3) := by decide +kernel
theorem dJ_indexOfFrom_27 : decode cJ_indexOfFrom 27 = .ok (.iload_n 1, 1) := by decide +kernel
theorem dJ_indexOfFrom_28 : decode cJ_indexOfFrom 28 = .ok (.iload_n 2, 1) := by decide +kernel
theorem dJ_indexOfFrom_29 : decode cJ_indexOfFrom 29 = .ok (.aload_n 0, 1) := by decide +kernel
theorem dJ_indexOfFrom_30 : decode cJ_indexOfFrom 30 = .ok (.invokevirtual 505, 3) := by decide +kernel
theorem dJ_indexOfFrom_33 : decode cJ_indexOfFrom 33 = .ok (.invokestatic 640, 3) := by decide +kernel
theorem dJ_indexOfFrom_36 : decode cJ_indexOfFrom 36 = .ok (.ireturn, 1) := by decide +kernel
theorem dJ_checkIndex_0 : decode cJ_checkIndex 0 = .ok (.iload_n 0, 1) := by decide +kernel
theorem dJ_checkIndex_1 : decode cJ_checkIndex 1 = .ok (.iload_n 1, 1) := by decide +kernel
theorem dJ_checkIndex_2 : decode cJ_checkIndex 2 = .ok (.getstatic 1053, 3) := by decide +kernel
theorem dJ_checkIndex_5 : decode cJ_checkIndex 5 = .ok (.invokestatic 1059, 3) := by decide +kernel
theorem dJ_checkIndex_8 : decode cJ_checkIndex 8 = .ok (.pop, 1) := by decide +kernel
theorem dJ_checkIndex_9 : decode cJ_checkIndex 9 = .ok (.return_, 1) := by decide +kernel
theorem dJ_latinIndexOf_0 : decode cJ_latinIndexOf 0 = .ok (.iload_n 1, 1) := by decide +kernel
theorem dJ_latinIndexOf_1 : decode cJ_latinIndexOf 1 = .ok (.invokestatic 88, 3) := by decide +kernel
theorem dJ_latinIndexOf_4 : decode cJ_latinIndexOf 4 = .ok (.ifCond .ne 5, 3) := by decide +kernel
theorem dJ_latinIndexOf_7 : decode cJ_latinIndexOf 7 = .ok (.iconst (-1), 1) := by decide +kernel
theorem dJ_latinIndexOf_8 : decode cJ_latinIndexOf 8 = .ok (.ireturn, 1) := by decide +kernel
theorem dJ_latinIndexOf_9 : decode cJ_latinIndexOf 9 = .ok (.iload_n 2, 1) := by decide +kernel
theorem dJ_latinIndexOf_10 : decode cJ_latinIndexOf 10 = .ok (.iconst 0, 1) := by decide +kernel
theorem dJ_latinIndexOf_11 : decode cJ_latinIndexOf 11 = .ok (.invokestatic 92, 3) := by decide +kernel
theorem dJ_latinIndexOf_14 : decode cJ_latinIndexOf 14 = .ok (.istore_n 2, 1) := by decide +kernel
theorem dJ_latinIndexOf_15 : decode cJ_latinIndexOf 15 = .ok (.iload_n 3, 1) := by decide +kernel
theorem dJ_latinIndexOf_16 : decode cJ_latinIndexOf 16 = .ok (.aload_n 0, 1) := by decide +kernel
theorem dJ_latinIndexOf_17 : decode cJ_latinIndexOf 17 = .ok (.arraylength, 1) := by decide +kernel
theorem dJ_latinIndexOf_18 : decode cJ_latinIndexOf 18 = .ok (.invokestatic 38, 3) := by decide +kernel
theorem dJ_latinIndexOf_21 : decode cJ_latinIndexOf 21 = .ok (.istore_n 3, 1) := by decide +kernel
theorem dJ_latinIndexOf_22 : decode cJ_latinIndexOf 22 = .ok (.iload_n 2, 1) := by decide +kernel
theorem dJ_latinIndexOf_23 : decode cJ_latinIndexOf 23 = .ok (.iload_n 3, 1) := by decide +kernel
theorem dJ_latinIndexOf_24 : decode cJ_latinIndexOf 24 = .ok (.if_icmp .lt 5, 3) := by decide +kernel
theorem dJ_latinIndexOf_27 : decode cJ_latinIndexOf 27 = .ok (.iconst (-1), 1) := by decide +kernel
theorem dJ_latinIndexOf_28 : decode cJ_latinIndexOf 28 = .ok (.ireturn, 1) := by decide +kernel
theorem dJ_latinIndexOf_29 : decode cJ_latinIndexOf 29 = .ok (.aload_n 0, 1) := by decide +kernel
theorem dJ_latinIndexOf_30 : decode cJ_latinIndexOf 30 = .ok (.iload_n 1, 1) := by decide +kernel
theorem dJ_latinIndexOf_31 : decode cJ_latinIndexOf 31 = .ok (.iload_n 2, 1) := by decide +kernel
theorem dJ_latinIndexOf_32 : decode cJ_latinIndexOf 32 = .ok (.iload_n 3, 1) := by decide +kernel
theorem dJ_latinIndexOf_33 : decode cJ_latinIndexOf 33 = .ok (.invokestatic 95, 3) := by decide +kernel
theorem dJ_latinIndexOf_36 : decode cJ_latinIndexOf 36 = .ok (.ireturn, 1) := by decide +kernel
theorem dJ_canEncode_0 : decode cJ_canEncode 0 = .ok (.iload_n 0, 1) := by decide +kernel
theorem dJ_canEncode_1 : decode cJ_canEncode 1 = .ok (.ifCond .lt 14, 3) := by decide +kernel
theorem dJ_canEncode_4 : decode cJ_canEncode 4 = .ok (.iload_n 0, 1) := by decide +kernel
theorem dJ_canEncode_5 : decode cJ_canEncode 5 = .ok (.sipush 255, 3) := by decide +kernel
theorem dJ_canEncode_8 : decode cJ_canEncode 8 = .ok (.if_icmp .gt 7, 3) := by decide +kernel
theorem dJ_canEncode_11 : decode cJ_canEncode 11 = .ok (.iconst 1, 1) := by decide +kernel
theorem dJ_canEncode_12 : decode cJ_canEncode 12 = .ok (.goto 4, 3) := by decide +kernel
theorem dJ_canEncode_15 : decode cJ_canEncode 15 = .ok (.iconst 0, 1) := by decide +kernel
theorem dJ_canEncode_16 : decode cJ_canEncode 16 = .ok (.ireturn, 1) := by decide +kernel
theorem dJ_indexOfChar_0 : decode cJ_indexOfChar 0 = .ok (.iload_n 1, 1) := by decide +kernel
theorem dJ_indexOfChar_1 : decode cJ_indexOfChar 1 = .ok (.i2b, 1) := by decide +kernel
theorem dJ_indexOfChar_2 : decode cJ_indexOfChar 2 = .ok (.istore 4, 2) := by decide +kernel
theorem dJ_indexOfChar_4 : decode cJ_indexOfChar 4 = .ok (.iload_n 2, 1) := by decide +kernel
theorem dJ_indexOfChar_5 : decode cJ_indexOfChar 5 = .ok (.istore 5, 2) := by decide +kernel
theorem dJ_indexOfChar_7 : decode cJ_indexOfChar 7 = .ok (.iload 5, 2) := by decide +kernel
theorem dJ_indexOfChar_9 : decode cJ_indexOfChar 9 = .ok (.iload_n 3, 1) := by decide +kernel
theorem dJ_indexOfChar_10 : decode cJ_indexOfChar 10 = .ok (.if_icmp .ge 21, 3) := by decide +kernel
theorem dJ_indexOfChar_13 : decode cJ_indexOfChar 13 = .ok (.aload_n 0, 1) := by decide +kernel
theorem dJ_indexOfChar_14 : decode cJ_indexOfChar 14 = .ok (.iload 5, 2) := by decide +kernel
theorem dJ_indexOfChar_16 : decode cJ_indexOfChar 16 = .ok (.baload, 1) := by decide +kernel
theorem dJ_indexOfChar_17 : decode cJ_indexOfChar 17 = .ok (.iload 4, 2) := by decide +kernel
theorem dJ_indexOfChar_19 : decode cJ_indexOfChar 19 = .ok (.if_icmp .ne 6, 3) := by decide +kernel
theorem dJ_indexOfChar_22 : decode cJ_indexOfChar 22 = .ok (.iload 5, 2) := by decide +kernel
theorem dJ_indexOfChar_24 : decode cJ_indexOfChar 24 = .ok (.ireturn, 1) := by decide +kernel
theorem dJ_indexOfChar_25 : decode cJ_indexOfChar 25 = .ok (.iinc 5 1, 3) := by decide +kernel
theorem dJ_indexOfChar_28 : decode cJ_indexOfChar 28 = .ok (.goto (-21), 3) := by decide +kernel
theorem dJ_indexOfChar_31 : decode cJ_indexOfChar 31 = .ok (.iconst (-1), 1) := by decide +kernel
theorem dJ_indexOfChar_32 : decode cJ_indexOfChar 32 = .ok (.ireturn, 1) := by decide +kernel
theorem dJ_latinCharAt_0 : decode cJ_latinCharAt 0 = .ok (.iload_n 1, 1) := by decide +kernel
theorem dJ_latinCharAt_1 : decode cJ_latinCharAt 1 = .ok (.aload_n 0, 1) := by decide +kernel
theorem dJ_latinCharAt_2 : decode cJ_latinCharAt 2 = .ok (.arraylength, 1) := by decide +kernel
theorem dJ_latinCharAt_3 : decode cJ_latinCharAt 3 = .ok (.invokestatic 9, 3) := by decide +kernel
theorem dJ_latinCharAt_6 : decode cJ_latinCharAt 6 = .ok (.aload_n 0, 1) := by decide +kernel
theorem dJ_latinCharAt_7 : decode cJ_latinCharAt 7 = .ok (.iload_n 1, 1) := by decide +kernel
theorem dJ_latinCharAt_8 : decode cJ_latinCharAt 8 = .ok (.baload, 1) := by decide +kernel
theorem dJ_latinCharAt_9 : decode cJ_latinCharAt 9 = .ok (.sipush 255, 3) := by decide +kernel
theorem dJ_latinCharAt_12 : decode cJ_latinCharAt 12 = .ok (.iand, 1) := by decide +kernel
theorem dJ_latinCharAt_13 : decode cJ_latinCharAt 13 = .ok (.i2c, 1) := by decide +kernel
theorem dJ_latinCharAt_14 : decode cJ_latinCharAt 14 = .ok (.ireturn, 1) := by decide +kernel
theorem dJ_preCheck_0 : decode cJ_preCheck 0 = .ok (.iload_n 0, 1) := by decide +kernel
theorem dJ_preCheck_1 : decode cJ_preCheck 1 = .ok (.ifCond .lt 8, 3) := by decide +kernel
theorem dJ_preCheck_4 : decode cJ_preCheck 4 = .ok (.iload_n 0, 1) := by decide +kernel
theorem dJ_preCheck_5 : decode cJ_preCheck 5 = .ok (.iload_n 1, 1) := by decide +kernel
theorem dJ_preCheck_6 : decode cJ_preCheck 6 = .ok (.if_icmp .lt 10, 3) := by decide +kernel
theorem dJ_preCheck_9 : decode cJ_preCheck 9 = .ok (.aload_n 2, 1) := by decide +kernel
theorem dJ_preCheck_10 : decode cJ_preCheck 10 = .ok (.iload_n 0, 1) := by decide +kernel
theorem dJ_preCheck_11 : decode cJ_preCheck 11 = .ok (.iload_n 1, 1) := by decide +kernel
theorem dJ_preCheck_12 : decode cJ_preCheck 12 = .ok (.invokestatic 95, 3) := by decide +kernel
theorem dJ_preCheck_15 : decode cJ_preCheck 15 = .ok (.athrow, 1) := by decide +kernel
theorem dJ_preCheck_16 : decode cJ_preCheck 16 = .ok (.iload_n 0, 1) := by decide +kernel
theorem dJ_preCheck_17 : decode cJ_preCheck 17 = .ok (.ireturn, 1) := by decide +kernel
theorem dX2_weigh_0 : decode cX2_weigh 0 = .ok (.aload_n 0, 1) := by decide +kernel
theorem dX2_weigh_1 : decode cX2_weigh 1 = .ok (.aload_n 1, 1) := by decide +kernel
theorem dX2_weigh_2 : decode cX2_weigh 2 = .ok (.getfield 37, 3) := by decide +kernel
theorem dX2_weigh_5 : decode cX2_weigh 5 = .ok (.putfield 34, 3) := by decide +kernel
theorem dX2_weigh_8 : decode cX2_weigh 8 = .ok (.aload_n 0, 1) := by decide +kernel
theorem dX2_weigh_9 : decode cX2_weigh 9 = .ok (.iconst 0, 1) := by decide +kernel
theorem dX2_weigh_10 : decode cX2_weigh 10 = .ok (.putfield 18, 3) := by decide +kernel
theorem dX2_weigh_13 : decode cX2_weigh 13 = .ok (.aload_n 0, 1) := by decide +kernel
theorem dX2_weigh_14 : decode cX2_weigh 14 = .ok (.aload_n 1, 1) := by decide +kernel
theorem dX2_weigh_15 : decode cX2_weigh 15 = .ok (.iload_n 2, 1) := by decide +kernel
theorem dX2_weigh_16 : decode cX2_weigh 16 = .ok (.invokevirtual 42, 3) := by decide +kernel
theorem dX2_weigh_19 : decode cX2_weigh 19 = .ok (.aload_n 0, 1) := by decide +kernel
theorem dX2_weigh_20 : decode cX2_weigh 20 = .ok (.aload_n 1, 1) := by decide +kernel
theorem dX2_weigh_21 : decode cX2_weigh 21 = .ok (.invokevirtual 46, 3) := by decide +kernel
theorem dX2_weigh_24 : decode cX2_weigh 24 = .ok (.aload_n 0, 1) := by decide +kernel
theorem dX2_weigh_25 : decode cX2_weigh 25 = .ok (.aload_n 1, 1) := by decide +kernel
theorem dX2_weigh_26 : decode cX2_weigh 26 = .ok (.invokevirtual 46, 3) := by decide +kernel
theorem dX2_weigh_29 : decode cX2_weigh 29 = .ok (.aload_n 0, 1) := by decide +kernel
theorem dX2_weigh_30 : decode cX2_weigh 30 = .ok (.aload_n 0, 1) := by decide +kernel
theorem dX2_weigh_31 : decode cX2_weigh 31 = .ok (.getfield 18, 3) := by decide +kernel
theorem dX2_weigh_34 : decode cX2_weigh 34 = .ok (.aload_n 0, 1) := by decide +kernel
theorem dX2_weigh_35 : decode cX2_weigh 35 = .ok (.getfield 18, 3) := by decide +kernel
theorem dX2_weigh_38 : decode cX2_weigh 38 = .ok (.iconst 1, 1) := by decide +kernel
theorem dX2_weigh_39 : decode cX2_weigh 39 = .ok (.iadd, 1) := by decide +kernel
theorem dX2_weigh_40 : decode cX2_weigh 40 = .ok (.imul, 1) := by decide +kernel
theorem dX2_weigh_41 : decode cX2_weigh 41 = .ok (.iconst 2, 1) := by decide +kernel
theorem dX2_weigh_42 : decode cX2_weigh 42 = .ok (.idiv, 1) := by decide +kernel
theorem dX2_weigh_43 : decode cX2_weigh 43 = .ok (.putfield 28, 3) := by decide +kernel
theorem dX2_weigh_46 : decode cX2_weigh 46 = .ok (.aload_n 0, 1) := by decide +kernel
theorem dX2_weigh_47 : decode cX2_weigh 47 = .ok (.iconst 0, 1) := by decide +kernel
theorem dX2_weigh_48 : decode cX2_weigh 48 = .ok (.putfield 31, 3) := by decide +kernel
theorem dX2_weigh_51 : decode cX2_weigh 51 = .ok (.iconst 0, 1) := by decide +kernel
theorem dX2_weigh_52 : decode cX2_weigh 52 = .ok (.istore_n 3, 1) := by decide +kernel
theorem dX2_weigh_53 : decode cX2_weigh 53 = .ok (.iload_n 3, 1) := by decide +kernel
theorem dX2_weigh_54 : decode cX2_weigh 54 = .ok (.aload_n 0, 1) := by decide +kernel
theorem dX2_weigh_55 : decode cX2_weigh 55 = .ok (.getfield 28, 3) := by decide +kernel
theorem dX2_weigh_58 : decode cX2_weigh 58 = .ok (.if_icmp .ge 53, 3) := by decide +kernel
theorem dX2_weigh_61 : decode cX2_weigh 61 = .ok (.aload_n 0, 1) := by decide +kernel
theorem dX2_weigh_62 : decode cX2_weigh 62 = .ok (.getfield 25, 3) := by decide +kernel
theorem dX2_weigh_65 : decode cX2_weigh 65 = .ok (.iload_n 3, 1) := by decide +kernel
theorem dX2_weigh_66 : decode cX2_weigh 66 = .ok (.aload_n 0, 1) := by decide +kernel
theorem dX2_weigh_67 : decode cX2_weigh 67 = .ok (.aload_n 1, 1) := by decide +kernel
theorem dX2_weigh_68 : decode cX2_weigh 68 = .ok (.getstatic 22, 3) := by decide +kernel
theorem dX2_weigh_71 : decode cX2_weigh 71 = .ok (.iload_n 3, 1) := by decide +kernel
theorem dX2_weigh_72 : decode cX2_weigh 72 = .ok (.iaload, 1) := by decide +kernel
theorem dX2_weigh_73 : decode cX2_weigh 73 = .ok (.getstatic 50, 3) := by decide +kernel
theorem dX2_weigh_76 : decode cX2_weigh 76 = .ok (.iload_n 3, 1) := by decide +kernel
theorem dX2_weigh_77 : decode cX2_weigh 77 = .ok (.iaload, 1) := by decide +kernel
theorem dX2_weigh_78 : decode cX2_weigh 78 = .ok (.invokevirtual 53, 3) := by decide +kernel
theorem dX2_weigh_81 : decode cX2_weigh 81 = .ok (.iastore, 1) := by decide +kernel
theorem dX2_weigh_82 : decode cX2_weigh 82 = .ok (.aload_n 0, 1) := by decide +kernel
theorem dX2_weigh_83 : decode cX2_weigh 83 = .ok (.getfield 25, 3) := by decide +kernel
theorem dX2_weigh_86 : decode cX2_weigh 86 = .ok (.iload_n 3, 1) := by decide +kernel
theorem dX2_weigh_87 : decode cX2_weigh 87 = .ok (.iaload, 1) := by decide +kernel
theorem dX2_weigh_88 : decode cX2_weigh 88 = .ok (.aload_n 0, 1) := by decide +kernel
theorem dX2_weigh_89 : decode cX2_weigh 89 = .ok (.getfield 25, 3) := by decide +kernel
theorem dX2_weigh_92 : decode cX2_weigh 92 = .ok (.aload_n 0, 1) := by decide +kernel
theorem dX2_weigh_93 : decode cX2_weigh 93 = .ok (.getfield 31, 3) := by decide +kernel
theorem dX2_weigh_96 : decode cX2_weigh 96 = .ok (.iaload, 1) := by decide +kernel
theorem dX2_weigh_97 : decode cX2_weigh 97 = .ok (.if_icmp .ge 8, 3) := by decide +kernel
theorem dX2_weigh_100 : decode cX2_weigh 100 = .ok (.aload_n 0, 1) := by decide +kernel
theorem dX2_weigh_101 : decode cX2_weigh 101 = .ok (.iload_n 3, 1) := by decide +kernel
theorem dX2_weigh_102 : decode cX2_weigh 102 = .ok (.putfield 31, 3) := by decide +kernel
theorem dX2_weigh_105 : decode cX2_weigh 105 = .ok (.iinc 3 1, 3) := by decide +kernel
theorem dX2_weigh_108 : decode cX2_weigh 108 = .ok (.goto (-55), 3) := by decide +kernel
theorem dX2_weigh_111 : decode cX2_weigh 111 = .ok (.return_, 1) := by decide +kernel
theorem dX2_firstChosen_0 : decode cX2_firstChosen 0 = .ok (.getstatic 22, 3) := by decide +kernel
theorem dX2_firstChosen_3 : decode cX2_firstChosen 3 = .ok (.aload_n 0, 1) := by decide +kernel
theorem dX2_firstChosen_4 : decode cX2_firstChosen 4 = .ok (.getfield 31, 3) := by decide +kernel
theorem dX2_firstChosen_7 : decode cX2_firstChosen 7 = .ok (.iaload, 1) := by decide +kernel
theorem dX2_firstChosen_8 : decode cX2_firstChosen 8 = .ok (.ireturn, 1) := by decide +kernel
theorem dX2_secondChosen_0 : decode cX2_secondChosen 0 = .ok (.getstatic 50, 3) := by decide +kernel
theorem dX2_secondChosen_3 : decode cX2_secondChosen 3 = .ok (.aload_n 0, 1) := by decide +kernel
theorem dX2_secondChosen_4 : decode cX2_secondChosen 4 = .ok (.getfield 31, 3) := by decide +kernel
theorem dX2_secondChosen_7 : decode cX2_secondChosen 7 = .ok (.iaload, 1) := by decide +kernel
theorem dX2_secondChosen_8 : decode cX2_secondChosen 8 = .ok (.ireturn, 1) := by decide +kernel
theorem dX3_isOf_0 : decode cX3_isOf 0 = .ok (.iload_n 0, 1) := by decide +kernel
theorem dX3_isOf_1 : decode cX3_isOf 1 = .ok (.ifCond .ne 21, 3) := by decide +kernel
theorem dX3_isOf_4 : decode cX3_isOf 4 = .ok (.iload_n 1, 1) := by decide +kernel
theorem dX3_isOf_5 : decode cX3_isOf 5 = .ok (.bipush 33, 2) := by decide +kernel
theorem dX3_isOf_7 : decode cX3_isOf 7 = .ok (.if_icmp .lt 13, 3) := by decide +kernel
theorem dX3_isOf_10 : decode cX3_isOf 10 = .ok (.iload_n 1, 1) := by decide +kernel
theorem dX3_isOf_11 : decode cX3_isOf 11 = .ok (.bipush 126, 2) := by decide +kernel
theorem dX3_isOf_13 : decode cX3_isOf 13 = .ok (.if_icmp .gt 7, 3) := by decide +kernel
theorem dX3_isOf_16 : decode cX3_isOf 16 = .ok (.iconst 1, 1) := by decide +kernel
theorem dX3_isOf_17 : decode cX3_isOf 17 = .ok (.goto 4, 3) := by decide +kernel
theorem dX3_isOf_20 : decode cX3_isOf 20 = .ok (.iconst 0, 1) := by decide +kernel
theorem dX3_isOf_21 : decode cX3_isOf 21 = .ok (.ireturn, 1) := by decide +kernel
theorem dX3_isOf_22 : decode cX3_isOf 22 = .ok (.ldc 74, 2) := by decide +kernel
theorem dX3_isOf_24 : decode cX3_isOf 24 = .ok (.iload_n 1, 1) := by decide +kernel
theorem dX3_isOf_25 : decode cX3_isOf 25 = .ok (.invokevirtual 76, 3) := by decide +kernel
theorem dX3_isOf_28 : decode cX3_isOf 28 = .ok (.istore_n 2, 1) := by decide +kernel
theorem dX3_isOf_29 : decode cX3_isOf 29 = .ok (.iload_n 2, 1) := by decide +kernel
theorem dX3_isOf_30 : decode cX3_isOf 30 = .ok (.ifCond .lt 17, 3) := by decide +kernel
theorem dX3_isOf_33 : decode cX3_isOf 33 = .ok (.iload_n 0, 1) := by decide +kernel
theorem dX3_isOf_34 : decode cX3_isOf 34 = .ok (.iconst 2, 1) := by decide +kernel
theorem dX3_isOf_35 : decode cX3_isOf 35 = .ok (.if_icmp .eq 8, 3) := by decide +kernel
theorem dX3_isOf_38 : decode cX3_isOf 38 = .ok (.iload_n 2, 1) := by decide +kernel
theorem dX3_isOf_39 : decode cX3_isOf 39 = .ok (.iconst 4, 1) := by decide +kernel
theorem dX3_isOf_40 : decode cX3_isOf 40 = .ok (.if_icmp .ge 7, 3) := by decide +kernel
theorem dX3_isOf_43 : decode cX3_isOf 43 = .ok (.iconst 1, 1) := by decide +kernel
theorem dX3_isOf_44 : decode cX3_isOf 44 = .ok (.goto 4, 3) := by decide +kernel
theorem dX3_isOf_47 : decode cX3_isOf 47 = .ok (.iconst 0, 1) := by decide +kernel
theorem dX3_isOf_48 : decode cX3_isOf 48 = .ok (.ireturn, 1) := by decide +kernel
theorem dX3_takeLine_0 : decode cX3_takeLine 0 = .ok (.aload_n 0, 1) := by decide +kernel
theorem dX3_takeLine_1 : decode cX3_takeLine 1 = .ok (.iconst 1, 1) := by decide +kernel
theorem dX3_takeLine_2 : decode cX3_takeLine 2 = .ok (.bipush 48, 2) := by decide +kernel
theorem dX3_takeLine_4 : decode cX3_takeLine 4 = .ok (.aload_n 1, 1) := by decide +kernel
theorem dX3_takeLine_5 : decode cX3_takeLine 5 = .ok (.getfield 47, 3) := by decide +kernel
theorem dX3_takeLine_8 : decode cX3_takeLine 8 = .ok (.isub, 1) := by decide +kernel
theorem dX3_takeLine_9 : decode cX3_takeLine 9 = .ok (.iconst 1, 1) := by decide +kernel
theorem dX3_takeLine_10 : decode cX3_takeLine 10 = .ok (.invokevirtual 30, 3) := by decide +kernel
theorem dX3_takeLine_13 : decode cX3_takeLine 13 = .ok (.istore_n 2, 1) := by decide +kernel
theorem dX3_takeLine_14 : decode cX3_takeLine 14 = .ok (.iconst 0, 1) := by decide +kernel
theorem dX3_takeLine_15 : decode cX3_takeLine 15 = .ok (.istore_n 3, 1) := by decide +kernel
theorem dX3_takeLine_16 : decode cX3_takeLine 16 = .ok (.iload_n 3, 1) := by decide +kernel
theorem dX3_takeLine_17 : decode cX3_takeLine 17 = .ok (.iload_n 2, 1) := by decide +kernel
theorem dX3_takeLine_18 : decode cX3_takeLine 18 = .ok (.if_icmp .ge 39, 3) := by decide +kernel
theorem dX3_takeLine_21 : decode cX3_takeLine 21 = .ok (.aload_n 1, 1) := by decide +kernel
theorem dX3_takeLine_22 : decode cX3_takeLine 22 = .ok (.getfield 70, 3) := by decide +kernel
theorem dX3_takeLine_25 : decode cX3_takeLine 25 = .ok (.aload_n 1, 1) := by decide +kernel
theorem dX3_takeLine_26 : decode cX3_takeLine 26 = .ok (.getfield 47, 3) := by decide +kernel
theorem dX3_takeLine_29 : decode cX3_takeLine 29 = .ok (.ldc 74, 2) := by decide +kernel
theorem dX3_takeLine_31 : decode cX3_takeLine 31 = .ok (.aload_n 0, 1) := by decide +kernel
theorem dX3_takeLine_32 : decode cX3_takeLine 32 = .ok (.iload_n 2, 1) := by decide +kernel
theorem dX3_takeLine_33 : decode cX3_takeLine 33 = .ok (.iload_n 3, 1) := by decide +kernel
theorem dX3_takeLine_34 : decode cX3_takeLine 34 = .ok (.invokevirtual 43, 3) := by decide +kernel
theorem dX3_takeLine_37 : decode cX3_takeLine 37 = .ok (.invokevirtual 76, 3) := by decide +kernel
theorem dX3_takeLine_40 : decode cX3_takeLine 40 = .ok (.iastore, 1) := by decide +kernel
theorem dX3_takeLine_41 : decode cX3_takeLine 41 = .ok (.aload_n 1, 1) := by decide +kernel
theorem dX3_takeLine_42 : decode cX3_takeLine 42 = .ok (.dup, 1) := by decide +kernel
theorem dX3_takeLine_43 : decode cX3_takeLine 43 = .ok (.getfield 47, 3) := by decide +kernel
theorem dX3_takeLine_46 : decode cX3_takeLine 46 = .ok (.iconst 1, 1) := by decide +kernel
theorem dX3_takeLine_47 : decode cX3_takeLine 47 = .ok (.iadd, 1) := by decide +kernel
theorem dX3_takeLine_48 : decode cX3_takeLine 48 = .ok (.putfield 47, 3) := by decide +kernel
theorem dX3_takeLine_51 : decode cX3_takeLine 51 = .ok (.iinc 3 1, 3) := by decide +kernel
theorem dX3_takeLine_54 : decode cX3_takeLine 54 = .ok (.goto (-38), 3) := by decide +kernel
theorem dX3_takeLine_57 : decode cX3_takeLine 57 = .ok (.aload_n 0, 1) := by decide +kernel
theorem dX3_takeLine_58 : decode cX3_takeLine 58 = .ok (.bipush 10, 2) := by decide +kernel
theorem dX3_takeLine_60 : decode cX3_takeLine 60 = .ok (.invokevirtual 26, 3) := by decide +kernel
theorem dX3_takeLine_63 : decode cX3_takeLine 63 = .ok (.return_, 1) := by decide +kernel
theorem dX3_takeRead_0 : decode cX3_takeRead 0 = .ok (.aload_n 0, 1) := by decide +kernel
theorem dX3_takeRead_1 : decode cX3_takeRead 1 = .ok (.bipush 64, 2) := by decide +kernel
theorem dX3_takeRead_3 : decode cX3_takeRead 3 = .ok (.invokevirtual 26, 3) := by decide +kernel
theorem dX3_takeRead_6 : decode cX3_takeRead 6 = .ok (.aload_n 0, 1) := by decide +kernel
theorem dX3_takeRead_7 : decode cX3_takeRead 7 = .ok (.iconst 1, 1) := by decide +kernel
theorem dX3_takeRead_8 : decode cX3_takeRead 8 = .ok (.bipush 8, 2) := by decide +kernel
theorem dX3_takeRead_10 : decode cX3_takeRead 10 = .ok (.iconst 0, 1) := by decide +kernel
theorem dX3_takeRead_11 : decode cX3_takeRead 11 = .ok (.invokevirtual 30, 3) := by decide +kernel
theorem dX3_takeRead_14 : decode cX3_takeRead 14 = .ok (.pop, 1) := by decide +kernel
theorem dX3_takeRead_15 : decode cX3_takeRead 15 = .ok (.aload_n 0, 1) := by decide +kernel
theorem dX3_takeRead_16 : decode cX3_takeRead 16 = .ok (.bipush 10, 2) := by decide +kernel
theorem dX3_takeRead_18 : decode cX3_takeRead 18 = .ok (.invokevirtual 26, 3) := by decide +kernel
theorem dX3_takeRead_21 : decode cX3_takeRead 21 = .ok (.aload_n 0, 1) := by decide +kernel
theorem dX3_takeRead_22 : decode cX3_takeRead 22 = .ok (.iconst 4, 1) := by decide +kernel
theorem dX3_takeRead_23 : decode cX3_takeRead 23 = .ok (.bipush 16, 2) := by decide +kernel
theorem dX3_takeRead_25 : decode cX3_takeRead 25 = .ok (.iconst 2, 1) := by decide +kernel
theorem dX3_takeRead_26 : decode cX3_takeRead 26 = .ok (.invokevirtual 30, 3) := by decide +kernel
theorem dX3_takeRead_29 : decode cX3_takeRead 29 = .ok (.istore_n 2, 1) := by decide +kernel
theorem dX3_takeRead_30 : decode cX3_takeRead 30 = .ok (.iconst 0, 1) := by decide +kernel
theorem dX3_takeRead_31 : decode cX3_takeRead 31 = .ok (.istore_n 3, 1) := by decide +kernel
theorem dX3_takeRead_32 : decode cX3_takeRead 32 = .ok (.iload_n 3, 1) := by decide +kernel
theorem dX3_takeRead_33 : decode cX3_takeRead 33 = .ok (.iload_n 2, 1) := by decide +kernel
theorem dX3_takeRead_34 : decode cX3_takeRead 34 = .ok (.if_icmp .ge 26, 3) := by decide +kernel
theorem dX3_takeRead_37 : decode cX3_takeRead 37 = .ok (.aload_n 1, 1) := by decide +kernel
theorem dX3_takeRead_38 : decode cX3_takeRead 38 = .ok (.getfield 82, 3) := by decide +kernel
theorem dX3_takeRead_41 : decode cX3_takeRead 41 = .ok (.iload_n 3, 1) := by decide +kernel
theorem dX3_takeRead_42 : decode cX3_takeRead 42 = .ok (.ldc 74, 2) := by decide +kernel
theorem dX3_takeRead_44 : decode cX3_takeRead 44 = .ok (.aload_n 0, 1) := by decide +kernel
theorem dX3_takeRead_45 : decode cX3_takeRead 45 = .ok (.iload_n 2, 1) := by decide +kernel
theorem dX3_takeRead_46 : decode cX3_takeRead 46 = .ok (.iload_n 3, 1) := by decide +kernel
theorem dX3_takeRead_47 : decode cX3_takeRead 47 = .ok (.invokevirtual 43, 3) := by decide +kernel
theorem dX3_takeRead_50 : decode cX3_takeRead 50 = .ok (.invokevirtual 76, 3) := by decide +kernel
theorem dX3_takeRead_53 : decode cX3_takeRead 53 = .ok (.iastore, 1) := by decide +kernel
theorem dX3_takeRead_54 : decode cX3_takeRead 54 = .ok (.iinc 3 1, 3) := by decide +kernel
theorem dX3_takeRead_57 : decode cX3_takeRead 57 = .ok (.goto (-25), 3) := by decide +kernel
theorem dX3_takeRead_60 : decode cX3_takeRead 60 = .ok (.aload_n 1, 1) := by decide +kernel
theorem dX3_takeRead_61 : decode cX3_takeRead 61 = .ok (.iload_n 2, 1) := by decide +kernel
theorem dX3_takeRead_62 : decode cX3_takeRead 62 = .ok (.putfield 87, 3) := by decide +kernel
theorem dX3_takeRead_65 : decode cX3_takeRead 65 = .ok (.aload_n 0, 1) := by decide +kernel
theorem dX3_takeRead_66 : decode cX3_takeRead 66 = .ok (.bipush 10, 2) := by decide +kernel
theorem dX3_takeRead_68 : decode cX3_takeRead 68 = .ok (.invokevirtual 26, 3) := by decide +kernel
theorem dX3_takeRead_71 : decode cX3_takeRead 71 = .ok (.aload_n 0, 1) := by decide +kernel
theorem dX3_takeRead_72 : decode cX3_takeRead 72 = .ok (.bipush 43, 2) := by decide +kernel
theorem dX3_takeRead_74 : decode cX3_takeRead 74 = .ok (.invokevirtual 26, 3) := by decide +kernel
theorem dX3_takeRead_77 : decode cX3_takeRead 77 = .ok (.aload_n 0, 1) := by decide +kernel
theorem dX3_takeRead_78 : decode cX3_takeRead 78 = .ok (.bipush 10, 2) := by decide +kernel
theorem dX3_takeRead_80 : decode cX3_takeRead 80 = .ok (.invokevirtual 26, 3) := by decide +kernel
theorem dX3_takeRead_83 : decode cX3_takeRead 83 = .ok (.aload_n 0, 1) := by decide +kernel
theorem dX3_takeRead_84 : decode cX3_takeRead 84 = .ok (.iload_n 2, 1) := by decide +kernel
theorem dX3_takeRead_85 : decode cX3_takeRead 85 = .ok (.iload_n 2, 1) := by decide +kernel
theorem dX3_takeRead_86 : decode cX3_takeRead 86 = .ok (.iconst 0, 1) := by decide +kernel
theorem dX3_takeRead_87 : decode cX3_takeRead 87 = .ok (.invokevirtual 30, 3) := by decide +kernel
theorem dX3_takeRead_90 : decode cX3_takeRead 90 = .ok (.istore_n 2, 1) := by decide +kernel
theorem dX3_takeRead_91 : decode cX3_takeRead 91 = .ok (.iconst 0, 1) := by decide +kernel
theorem dX3_takeRead_92 : decode cX3_takeRead 92 = .ok (.istore_n 3, 1) := by decide +kernel
theorem dX3_takeRead_93 : decode cX3_takeRead 93 = .ok (.iload_n 3, 1) := by decide +kernel
theorem dX3_takeRead_94 : decode cX3_takeRead 94 = .ok (.iload_n 2, 1) := by decide +kernel
theorem dX3_takeRead_95 : decode cX3_takeRead 95 = .ok (.if_icmp .ge 24, 3) := by decide +kernel
theorem dX3_takeRead_98 : decode cX3_takeRead 98 = .ok (.aload_n 1, 1) := by decide +kernel
theorem dX3_takeRead_99 : decode cX3_takeRead 99 = .ok (.getfield 90, 3) := by decide +kernel
theorem dX3_takeRead_102 : decode cX3_takeRead 102 = .ok (.iload_n 3, 1) := by decide +kernel
theorem dX3_takeRead_103 : decode cX3_takeRead 103 = .ok (.aload_n 0, 1) := by decide +kernel
theorem dX3_takeRead_104 : decode cX3_takeRead 104 = .ok (.iload_n 2, 1) := by decide +kernel
theorem dX3_takeRead_105 : decode cX3_takeRead 105 = .ok (.iload_n 3, 1) := by decide +kernel
theorem dX3_takeRead_106 : decode cX3_takeRead 106 = .ok (.invokevirtual 43, 3) := by decide +kernel
theorem dX3_takeRead_109 : decode cX3_takeRead 109 = .ok (.bipush 33, 2) := by decide +kernel
theorem dX3_takeRead_111 : decode cX3_takeRead 111 = .ok (.isub, 1) := by decide +kernel
theorem dX3_takeRead_112 : decode cX3_takeRead 112 = .ok (.iastore, 1) := by decide +kernel
theorem dX3_takeRead_113 : decode cX3_takeRead 113 = .ok (.iinc 3 1, 3) := by decide +kernel
theorem dX3_takeRead_116 : decode cX3_takeRead 116 = .ok (.goto (-23), 3) := by decide +kernel
theorem dX3_takeRead_119 : decode cX3_takeRead 119 = .ok (.aload_n 0, 1) := by decide +kernel
theorem dX3_takeRead_120 : decode cX3_takeRead 120 = .ok (.bipush 10, 2) := by decide +kernel
theorem dX3_takeRead_122 : decode cX3_takeRead 122 = .ok (.invokevirtual 26, 3) := by decide +kernel
theorem dX3_takeRead_125 : decode cX3_takeRead 125 = .ok (.return_, 1) := by decide +kernel
theorem dX8_begin_0 : decode cX8_begin 0 = .ok (.aload_n 0, 1) := by decide +kernel
theorem dX8_begin_1 : decode cX8_begin 1 = .ok (.iconst 0, 1) := by decide +kernel
theorem dX8_begin_2 : decode cX8_begin 2 = .ok (.putfield 15, 3) := by decide +kernel
theorem dX8_begin_5 : decode cX8_begin 5 = .ok (.aload_n 0, 1) := by decide +kernel
theorem dX8_begin_6 : decode cX8_begin 6 = .ok (.ldc 19, 2) := by decide +kernel
theorem dX8_begin_8 : decode cX8_begin 8 = .ok (.invokevirtual 21, 3) := by decide +kernel
theorem dX8_begin_11 : decode cX8_begin 11 = .ok (.return_, 1) := by decide +kernel
theorem dX8_writeText_0 : decode cX8_writeText 0 = .ok (.iconst 0, 1) := by decide +kernel
theorem dX8_writeText_1 : decode cX8_writeText 1 = .ok (.istore_n 2, 1) := by decide +kernel
theorem dX8_writeText_2 : decode cX8_writeText 2 = .ok (.iload_n 2, 1) := by decide +kernel
theorem dX8_writeText_3 : decode cX8_writeText 3 = .ok (.aload_n 1, 1) := by decide +kernel
theorem dX8_writeText_4 : decode cX8_writeText 4 = .ok (.invokevirtual 124, 3) := by decide +kernel
theorem dX8_writeText_7 : decode cX8_writeText 7 = .ok (.if_icmp .ge 18, 3) := by decide +kernel
theorem dX8_writeText_10 : decode cX8_writeText 10 = .ok (.aload_n 0, 1) := by decide +kernel
theorem dX8_writeText_11 : decode cX8_writeText 11 = .ok (.aload_n 1, 1) := by decide +kernel
theorem dX8_writeText_12 : decode cX8_writeText 12 = .ok (.iload_n 2, 1) := by decide +kernel
theorem dX8_writeText_13 : decode cX8_writeText 13 = .ok (.invokevirtual 37, 3) := by decide +kernel
theorem dX8_writeText_16 : decode cX8_writeText 16 = .ok (.invokevirtual 43, 3) := by decide +kernel
theorem dX8_writeText_19 : decode cX8_writeText 19 = .ok (.iinc 2 1, 3) := by decide +kernel
theorem dX8_writeText_22 : decode cX8_writeText 22 = .ok (.goto (-20), 3) := by decide +kernel
theorem dX8_writeText_25 : decode cX8_writeText 25 = .ok (.return_, 1) := by decide +kernel
theorem dX8_writeBaseSite_0 : decode cX8_writeBaseSite 0 = .ok (.aload_n 0, 1) := by decide +kernel
theorem dX8_writeBaseSite_1 : decode cX8_writeBaseSite 1 = .ok (.aload_n 1, 1) := by decide +kernel
theorem dX8_writeBaseSite_2 : decode cX8_writeBaseSite 2 = .ok (.iload_n 2, 1) := by decide +kernel
theorem dX8_writeBaseSite_3 : decode cX8_writeBaseSite 3 = .ok (.invokevirtual 25, 3) := by decide +kernel
theorem dX8_writeBaseSite_6 : decode cX8_writeBaseSite 6 = .ok (.aload_n 0, 1) := by decide +kernel
theorem dX8_writeBaseSite_7 : decode cX8_writeBaseSite 7 = .ok (.ldc 29, 2) := by decide +kernel
theorem dX8_writeBaseSite_9 : decode cX8_writeBaseSite 9 = .ok (.aload_n 3, 1) := by decide +kernel
theorem dX8_writeBaseSite_10 : decode cX8_writeBaseSite 10 = .ok (.getfield 31, 3) := by decide +kernel
theorem dX8_writeBaseSite_13 : decode cX8_writeBaseSite 13 = .ok (.iconst 0, 1) := by decide +kernel
theorem dX8_writeBaseSite_14 : decode cX8_writeBaseSite 14 = .ok (.iaload, 1) := by decide +kernel
theorem dX8_writeBaseSite_15 : decode cX8_writeBaseSite 15 = .ok (.invokevirtual 37, 3) := by decide +kernel
theorem dX8_writeBaseSite_18 : decode cX8_writeBaseSite 18 = .ok (.invokevirtual 43, 3) := by decide +kernel
theorem dX8_writeBaseSite_21 : decode cX8_writeBaseSite 21 = .ok (.aload_n 0, 1) := by decide +kernel
theorem dX8_writeBaseSite_22 : decode cX8_writeBaseSite 22 = .ok (.bipush 9, 2) := by decide +kernel
theorem dX8_writeBaseSite_24 : decode cX8_writeBaseSite 24 = .ok (.invokevirtual 43, 3) := by decide +kernel
theorem dX8_writeBaseSite_27 : decode cX8_writeBaseSite 27 = .ok (.iconst 1, 1) := by decide +kernel
theorem dX8_writeBaseSite_28 : decode cX8_writeBaseSite 28 = .ok (.istore 4, 2) := by decide +kernel
theorem dX8_writeBaseSite_30 : decode cX8_writeBaseSite 30 = .ok (.iload 4, 2) := by decide +kernel
theorem dX8_writeBaseSite_32 : decode cX8_writeBaseSite 32 = .ok (.aload_n 3, 1) := by decide +kernel
theorem dX8_writeBaseSite_33 : decode cX8_writeBaseSite 33 = .ok (.getfield 47, 3) := by decide +kernel
theorem dX8_writeBaseSite_36 : decode cX8_writeBaseSite 36 = .ok (.if_icmp .ge 40, 3) := by decide +kernel
theorem dX8_writeBaseSite_39 : decode cX8_writeBaseSite 39 = .ok (.aload_n 0, 1) := by decide +kernel
theorem dX8_writeBaseSite_40 : decode cX8_writeBaseSite 40 = .ok (.iload 4, 2) := by decide +kernel
theorem dX8_writeBaseSite_42 : decode cX8_writeBaseSite 42 = .ok (.iconst 1, 1) := by decide +kernel
theorem dX8_writeBaseSite_43 : decode cX8_writeBaseSite 43 = .ok (.if_icmp .le 7, 3) := by decide +kernel
theorem dX8_writeBaseSite_46 : decode cX8_writeBaseSite 46 = .ok (.iconst 1, 1) := by decide +kernel
theorem dX8_writeBaseSite_47 : decode cX8_writeBaseSite 47 = .ok (.goto 4, 3) := by decide +kernel
theorem dX8_writeBaseSite_50 : decode cX8_writeBaseSite 50 = .ok (.iconst 0, 1) := by decide +kernel
theorem dX8_writeBaseSite_51 : decode cX8_writeBaseSite 51 = .ok (.invokevirtual 50, 3) := by decide +kernel
theorem dX8_writeBaseSite_54 : decode cX8_writeBaseSite 54 = .ok (.aload_n 0, 1) := by decide +kernel
theorem dX8_writeBaseSite_55 : decode cX8_writeBaseSite 55 = .ok (.ldc 29, 2) := by decide +kernel
theorem dX8_writeBaseSite_57 : decode cX8_writeBaseSite 57 = .ok (.aload_n 3, 1) := by decide +kernel
theorem dX8_writeBaseSite_58 : decode cX8_writeBaseSite 58 = .ok (.getfield 31, 3) := by decide +kernel
theorem dX8_writeBaseSite_61 : decode cX8_writeBaseSite 61 = .ok (.iload 4, 2) := by decide +kernel
theorem dX8_writeBaseSite_63 : decode cX8_writeBaseSite 63 = .ok (.iaload, 1) := by decide +kernel
theorem dX8_writeBaseSite_64 : decode cX8_writeBaseSite 64 = .ok (.invokevirtual 37, 3) := by decide +kernel
theorem dX8_writeBaseSite_67 : decode cX8_writeBaseSite 67 = .ok (.invokevirtual 43, 3) := by decide +kernel
theorem dX8_writeBaseSite_70 : decode cX8_writeBaseSite 70 = .ok (.iinc 4 1, 3) := by decide +kernel
theorem dX8_writeBaseSite_73 : decode cX8_writeBaseSite 73 = .ok (.goto (-43), 3) := by decide +kernel
theorem dX8_writeBaseSite_76 : decode cX8_writeBaseSite 76 = .ok (.aload_n 0, 1) := by decide +kernel
theorem dX8_writeBaseSite_77 : decode cX8_writeBaseSite 77 = .ok (.aload_n 3, 1) := by decide +kernel
theorem dX8_writeBaseSite_78 : decode cX8_writeBaseSite 78 = .ok (.invokevirtual 54, 3) := by decide +kernel
theorem dX8_writeBaseSite_81 : decode cX8_writeBaseSite 81 = .ok (.return_, 1) := by decide +kernel
theorem dX8_writePosition_0 : decode cX8_writePosition 0 = .ok (.iconst 0, 1) := by decide +kernel
theorem dX8_writePosition_1 : decode cX8_writePosition 1 = .ok (.istore_n 3, 1) := by decide +kernel
theorem dX8_writePosition_2 : decode cX8_writePosition 2 = .ok (.iload_n 3, 1) := by decide +kernel
theorem dX8_writePosition_3 : decode cX8_writePosition 3 = .ok (.aload_n 1, 1) := by decide +kernel
theorem dX8_writePosition_4 : decode cX8_writePosition 4 = .ok (.getfield 76, 3) := by decide +kernel
theorem dX8_writePosition_7 : decode cX8_writePosition 7 = .ok (.if_icmp .ge 19, 3) := by decide +kernel
theorem dX8_writePosition_10 : decode cX8_writePosition 10 = .ok (.aload_n 0, 1) := by decide +kernel
theorem dX8_writePosition_11 : decode cX8_writePosition 11 = .ok (.aload_n 1, 1) := by decide +kernel
theorem dX8_writePosition_12 : decode cX8_writePosition 12 = .ok (.getfield 81, 3) := by decide +kernel
theorem dX8_writePosition_15 : decode cX8_writePosition 15 = .ok (.iload_n 3, 1) := by decide +kernel
theorem dX8_writePosition_16 : decode cX8_writePosition 16 = .ok (.caload, 1) := by decide +kernel
theorem dX8_writePosition_17 : decode cX8_writePosition 17 = .ok (.invokevirtual 43, 3) := by decide +kernel
theorem dX8_writePosition_20 : decode cX8_writePosition 20 = .ok (.iinc 3 1, 3) := by decide +kernel
theorem dX8_writePosition_23 : decode cX8_writePosition 23 = .ok (.goto (-21), 3) := by decide +kernel
theorem dX8_writePosition_26 : decode cX8_writePosition 26 = .ok (.aload_n 0, 1) := by decide +kernel
theorem dX8_writePosition_27 : decode cX8_writePosition 27 = .ok (.bipush 9, 2) := by decide +kernel
theorem dX8_writePosition_29 : decode cX8_writePosition 29 = .ok (.invokevirtual 43, 3) := by decide +kernel
theorem dX8_writePosition_32 : decode cX8_writePosition 32 = .ok (.aload_n 0, 1) := by decide +kernel
theorem dX8_writePosition_33 : decode cX8_writePosition 33 = .ok (.iload_n 2, 1) := by decide +kernel
theorem dX8_writePosition_34 : decode cX8_writePosition 34 = .ok (.iconst 1, 1) := by decide +kernel
theorem dX8_writePosition_35 : decode cX8_writePosition 35 = .ok (.iadd, 1) := by decide +kernel
theorem dX8_writePosition_36 : decode cX8_writePosition 36 = .ok (.invokevirtual 84, 3) := by decide +kernel
theorem dX8_writePosition_39 : decode cX8_writePosition 39 = .ok (.aload_n 0, 1) := by decide +kernel
theorem dX8_writePosition_40 : decode cX8_writePosition 40 = .ok (.ldc 88, 2) := by decide +kernel
theorem dX8_writePosition_42 : decode cX8_writePosition 42 = .ok (.invokevirtual 21, 3) := by decide +kernel
theorem dX8_writePosition_45 : decode cX8_writePosition 45 = .ok (.return_, 1) := by decide +kernel
theorem dX8_writeJudgement_0 : decode cX8_writeJudgement 0 = .ok (.aload_n 0, 1) := by decide +kernel
theorem dX8_writeJudgement_1 : decode cX8_writeJudgement 1 = .ok (.bipush 9, 2) := by decide +kernel
theorem dX8_writeJudgement_3 : decode cX8_writeJudgement 3 = .ok (.invokevirtual 43, 3) := by decide +kernel
theorem dX8_writeJudgement_6 : decode cX8_writeJudgement 6 = .ok (.aload_n 0, 1) := by decide +kernel
theorem dX8_writeJudgement_7 : decode cX8_writeJudgement 7 = .ok (.sipush 999, 3) := by decide +kernel
theorem dX8_writeJudgement_10 : decode cX8_writeJudgement 10 = .ok (.aload_n 1, 1) := by decide +kernel
theorem dX8_writeJudgement_11 : decode cX8_writeJudgement 11 = .ok (.iconst 0, 1) := by decide +kernel
theorem dX8_writeJudgement_12 : decode cX8_writeJudgement 12 = .ok (.invokevirtual 99, 3) := by decide +kernel
theorem dX8_writeJudgement_15 : decode cX8_writeJudgement 15 = .ok (.invokestatic 103, 3) := by decide +kernel
theorem dX8_writeJudgement_18 : decode cX8_writeJudgement 18 = .ok (.invokevirtual 84, 3) := by decide +kernel
theorem dX8_writeJudgement_21 : decode cX8_writeJudgement 21 = .ok (.aload_n 0, 1) := by decide +kernel
theorem dX8_writeJudgement_22 : decode cX8_writeJudgement 22 = .ok (.ldc 106, 2) := by decide +kernel
theorem dX8_writeJudgement_24 : decode cX8_writeJudgement 24 = .ok (.invokevirtual 21, 3) := by decide +kernel
theorem dX8_writeJudgement_27 : decode cX8_writeJudgement 27 = .ok (.aload_n 0, 1) := by decide +kernel
theorem dX8_writeJudgement_28 : decode cX8_writeJudgement 28 = .ok (.aload_n 1, 1) := by decide +kernel
theorem dX8_writeJudgement_29 : decode cX8_writeJudgement 29 = .ok (.invokevirtual 108, 3) := by decide +kernel
theorem dX8_writeJudgement_32 : decode cX8_writeJudgement 32 = .ok (.invokevirtual 84, 3) := by decide +kernel
theorem dX8_writeJudgement_35 : decode cX8_writeJudgement 35 = .ok (.aload_n 0, 1) := by decide +kernel
theorem dX8_writeJudgement_36 : decode cX8_writeJudgement 36 = .ok (.bipush 47, 2) := by decide +kernel
theorem dX8_writeJudgement_38 : decode cX8_writeJudgement 38 = .ok (.invokevirtual 43, 3) := by decide +kernel
theorem dX8_writeJudgement_41 : decode cX8_writeJudgement 41 = .ok (.aload_n 0, 1) := by decide +kernel
theorem dX8_writeJudgement_42 : decode cX8_writeJudgement 42 = .ok (.aload_n 1, 1) := by decide +kernel
theorem dX8_writeJudgement_43 : decode cX8_writeJudgement 43 = .ok (.invokevirtual 112, 3) := by decide +kernel
theorem dX8_writeJudgement_46 : decode cX8_writeJudgement 46 = .ok (.invokevirtual 84, 3) := by decide +kernel
theorem dX8_writeJudgement_49 : decode cX8_writeJudgement 49 = .ok (.aload_n 0, 1) := by decide +kernel
theorem dX8_writeJudgement_50 : decode cX8_writeJudgement 50 = .ok (.bipush 58, 2) := by decide +kernel
theorem dX8_writeJudgement_52 : decode cX8_writeJudgement 52 = .ok (.invokevirtual 43, 3) := by decide +kernel
theorem dX8_writeJudgement_55 : decode cX8_writeJudgement 55 = .ok (.aload_n 0, 1) := by decide +kernel
theorem dX8_writeJudgement_56 : decode cX8_writeJudgement 56 = .ok (.aload_n 1, 1) := by decide +kernel
theorem dX8_writeJudgement_57 : decode cX8_writeJudgement 57 = .ok (.getfield 115, 3) := by decide +kernel
theorem dX8_writeJudgement_60 : decode cX8_writeJudgement 60 = .ok (.invokevirtual 84, 3) := by decide +kernel
theorem dX8_writeJudgement_63 : decode cX8_writeJudgement 63 = .ok (.aload_n 0, 1) := by decide +kernel
theorem dX8_writeJudgement_64 : decode cX8_writeJudgement 64 = .ok (.bipush 58, 2) := by decide +kernel
theorem dX8_writeJudgement_66 : decode cX8_writeJudgement 66 = .ok (.invokevirtual 43, 3) := by decide +kernel
theorem dX8_writeJudgement_69 : decode cX8_writeJudgement 69 = .ok (.iconst 0, 1) := by decide +kernel
theorem dX8_writeJudgement_70 : decode cX8_writeJudgement 70 = .ok (.istore_n 2, 1) := by decide +kernel
theorem dX8_writeJudgement_71 : decode cX8_writeJudgement 71 = .ok (.iload_n 2, 1) := by decide +kernel
theorem dX8_writeJudgement_72 : decode cX8_writeJudgement 72 = .ok (.aload_n 1, 1) := by decide +kernel
theorem dX8_writeJudgement_73 : decode cX8_writeJudgement 73 = .ok (.getfield 47, 3) := by decide +kernel
theorem dX8_writeJudgement_76 : decode cX8_writeJudgement 76 = .ok (.if_icmp .ge 32, 3) := by decide +kernel
theorem dX8_writeJudgement_79 : decode cX8_writeJudgement 79 = .ok (.aload_n 0, 1) := by decide +kernel
theorem dX8_writeJudgement_80 : decode cX8_writeJudgement 80 = .ok (.iload_n 2, 1) := by decide +kernel
theorem dX8_writeJudgement_81 : decode cX8_writeJudgement 81 = .ok (.ifCond .le 7, 3) := by decide +kernel
theorem dX8_writeJudgement_84 : decode cX8_writeJudgement 84 = .ok (.iconst 1, 1) := by decide +kernel
theorem dX8_writeJudgement_85 : decode cX8_writeJudgement 85 = .ok (.goto 4, 3) := by decide +kernel
theorem dX8_writeJudgement_88 : decode cX8_writeJudgement 88 = .ok (.iconst 0, 1) := by decide +kernel
theorem dX8_writeJudgement_89 : decode cX8_writeJudgement 89 = .ok (.invokevirtual 50, 3) := by decide +kernel
theorem dX8_writeJudgement_92 : decode cX8_writeJudgement 92 = .ok (.aload_n 0, 1) := by decide +kernel
theorem dX8_writeJudgement_93 : decode cX8_writeJudgement 93 = .ok (.aload_n 1, 1) := by decide +kernel
theorem dX8_writeJudgement_94 : decode cX8_writeJudgement 94 = .ok (.getfield 118, 3) := by decide +kernel
theorem dX8_writeJudgement_97 : decode cX8_writeJudgement 97 = .ok (.iload_n 2, 1) := by decide +kernel
theorem dX8_writeJudgement_98 : decode cX8_writeJudgement 98 = .ok (.iaload, 1) := by decide +kernel
theorem dX8_writeJudgement_99 : decode cX8_writeJudgement 99 = .ok (.invokevirtual 84, 3) := by decide +kernel
theorem dX8_writeJudgement_102 : decode cX8_writeJudgement 102 = .ok (.iinc 2 1, 3) := by decide +kernel
theorem dX8_writeJudgement_105 : decode cX8_writeJudgement 105 = .ok (.goto (-34), 3) := by decide +kernel
theorem dX8_writeJudgement_108 : decode cX8_writeJudgement 108 = .ok (.aload_n 0, 1) := by decide +kernel
theorem dX8_writeJudgement_109 : decode cX8_writeJudgement 109 = .ok (.bipush 58, 2) := by decide +kernel
theorem dX8_writeJudgement_111 : decode cX8_writeJudgement 111 = .ok (.invokevirtual 43, 3) := by decide +kernel
theorem dX8_writeJudgement_114 : decode cX8_writeJudgement 114 = .ok (.iconst 0, 1) := by decide +kernel
theorem dX8_writeJudgement_115 : decode cX8_writeJudgement 115 = .ok (.istore_n 2, 1) := by decide +kernel
theorem dX8_writeJudgement_116 : decode cX8_writeJudgement 116 = .ok (.iload_n 2, 1) := by decide +kernel
theorem dX8_writeJudgement_117 : decode cX8_writeJudgement 117 = .ok (.aload_n 1, 1) := by decide +kernel
theorem dX8_writeJudgement_118 : decode cX8_writeJudgement 118 = .ok (.getfield 121, 3) := by decide +kernel
theorem dX8_writeJudgement_121 : decode cX8_writeJudgement 121 = .ok (.if_icmp .ge 37, 3) := by decide +kernel
theorem dX8_writeJudgement_124 : decode cX8_writeJudgement 124 = .ok (.aload_n 0, 1) := by decide +kernel
theorem dX8_writeJudgement_125 : decode cX8_writeJudgement 125 = .ok (.iload_n 2, 1) := by decide +kernel
theorem dX8_writeJudgement_126 : decode cX8_writeJudgement 126 = .ok (.ifCond .le 7, 3) := by decide +kernel
theorem dX8_writeJudgement_129 : decode cX8_writeJudgement 129 = .ok (.iconst 1, 1) := by decide +kernel
theorem dX8_writeJudgement_130 : decode cX8_writeJudgement 130 = .ok (.goto 4, 3) := by decide +kernel
theorem dX8_writeJudgement_133 : decode cX8_writeJudgement 133 = .ok (.iconst 0, 1) := by decide +kernel
theorem dX8_writeJudgement_134 : decode cX8_writeJudgement 134 = .ok (.invokevirtual 50, 3) := by decide +kernel
theorem dX8_writeJudgement_137 : decode cX8_writeJudgement 137 = .ok (.aload_n 0, 1) := by decide +kernel
theorem dX8_writeJudgement_138 : decode cX8_writeJudgement 138 = .ok (.sipush 255, 3) := by decide +kernel
theorem dX8_writeJudgement_141 : decode cX8_writeJudgement 141 = .ok (.aload_n 1, 1) := by decide +kernel
theorem dX8_writeJudgement_142 : decode cX8_writeJudgement 142 = .ok (.iload_n 2, 1) := by decide +kernel
theorem dX8_writeJudgement_143 : decode cX8_writeJudgement 143 = .ok (.invokevirtual 99, 3) := by decide +kernel
theorem dX8_writeJudgement_146 : decode cX8_writeJudgement 146 = .ok (.invokestatic 103, 3) := by decide +kernel
theorem dX8_writeJudgement_149 : decode cX8_writeJudgement 149 = .ok (.invokevirtual 84, 3) := by decide +kernel
theorem dX8_writeJudgement_152 : decode cX8_writeJudgement 152 = .ok (.iinc 2 1, 3) := by decide +kernel
theorem dX8_writeJudgement_155 : decode cX8_writeJudgement 155 = .ok (.goto (-39), 3) := by decide +kernel
theorem dX8_writeJudgement_158 : decode cX8_writeJudgement 158 = .ok (.aload_n 0, 1) := by decide +kernel
theorem dX8_writeJudgement_159 : decode cX8_writeJudgement 159 = .ok (.bipush 10, 2) := by decide +kernel
theorem dX8_writeJudgement_161 : decode cX8_writeJudgement 161 = .ok (.invokevirtual 43, 3) := by decide +kernel
theorem dX8_writeJudgement_164 : decode cX8_writeJudgement 164 = .ok (.return_, 1) := by decide +kernel
theorem dX8_writeBases_0 : decode cX8_writeBases 0 = .ok (.iload_n 2, 1) := by decide +kernel
theorem dX8_writeBases_1 : decode cX8_writeBases 1 = .ok (.istore 4, 2) := by decide +kernel
theorem dX8_writeBases_3 : decode cX8_writeBases 3 = .ok (.iload 4, 2) := by decide +kernel
theorem dX8_writeBases_5 : decode cX8_writeBases 5 = .ok (.iload_n 3, 1) := by decide +kernel
theorem dX8_writeBases_6 : decode cX8_writeBases 6 = .ok (.if_icmp .gt 34, 3) := by decide +kernel
theorem dX8_writeBases_9 : decode cX8_writeBases 9 = .ok (.iload 4, 2) := by decide +kernel
theorem dX8_writeBases_11 : decode cX8_writeBases 11 = .ok (.aload_n 1, 1) := by decide +kernel
theorem dX8_writeBases_12 : decode cX8_writeBases 12 = .ok (.getfield 93, 3) := by decide +kernel
theorem dX8_writeBases_15 : decode cX8_writeBases 15 = .ok (.if_icmp .ge 25, 3) := by decide +kernel
theorem dX8_writeBases_18 : decode cX8_writeBases 18 = .ok (.aload_n 0, 1) := by decide +kernel
theorem dX8_writeBases_19 : decode cX8_writeBases 19 = .ok (.ldc 29, 2) := by decide +kernel
theorem dX8_writeBases_21 : decode cX8_writeBases 21 = .ok (.aload_n 1, 1) := by decide +kernel
theorem dX8_writeBases_22 : decode cX8_writeBases 22 = .ok (.getfield 96, 3) := by decide +kernel
theorem dX8_writeBases_25 : decode cX8_writeBases 25 = .ok (.iload 4, 2) := by decide +kernel
theorem dX8_writeBases_27 : decode cX8_writeBases 27 = .ok (.iaload, 1) := by decide +kernel
theorem dX8_writeBases_28 : decode cX8_writeBases 28 = .ok (.invokevirtual 37, 3) := by decide +kernel
theorem dX8_writeBases_31 : decode cX8_writeBases 31 = .ok (.invokevirtual 43, 3) := by decide +kernel
theorem dX8_writeBases_34 : decode cX8_writeBases 34 = .ok (.iinc 4 1, 3) := by decide +kernel
theorem dX8_writeBases_37 : decode cX8_writeBases 37 = .ok (.goto (-34), 3) := by decide +kernel
theorem dX8_writeBases_40 : decode cX8_writeBases 40 = .ok (.return_, 1) := by decide +kernel
theorem dX8_writeGain_0 : decode cX8_writeGain 0 = .ok (.iconst 1, 1) := by decide +kernel
theorem dX8_writeGain_1 : decode cX8_writeGain 1 = .ok (.istore_n 2, 1) := by decide +kernel
theorem dX8_writeGain_2 : decode cX8_writeGain 2 = .ok (.iload_n 2, 1) := by decide +kernel
theorem dX8_writeGain_3 : decode cX8_writeGain 3 = .ok (.iconst 4, 1) := by decide +kernel
theorem dX8_writeGain_4 : decode cX8_writeGain 4 = .ok (.imul, 1) := by decide +kernel
theorem dX8_writeGain_5 : decode cX8_writeGain 5 = .ok (.iload_n 1, 1) := by decide +kernel
theorem dX8_writeGain_6 : decode cX8_writeGain 6 = .ok (.if_icmp .gt 16, 3) := by decide +kernel
theorem dX8_writeGain_9 : decode cX8_writeGain 9 = .ok (.iload_n 2, 1) := by decide +kernel
theorem dX8_writeGain_10 : decode cX8_writeGain 10 = .ok (.bipush 64, 2) := by decide +kernel
theorem dX8_writeGain_12 : decode cX8_writeGain 12 = .ok (.if_icmp .ge 10, 3) := by decide +kernel
theorem dX8_writeGain_15 : decode cX8_writeGain 15 = .ok (.iload_n 2, 1) := by decide +kernel
theorem dX8_writeGain_16 : decode cX8_writeGain 16 = .ok (.iconst 4, 1) := by decide +kernel
theorem dX8_writeGain_17 : decode cX8_writeGain 17 = .ok (.imul, 1) := by decide +kernel
theorem dX8_writeGain_18 : decode cX8_writeGain 18 = .ok (.istore_n 2, 1) := by decide +kernel
theorem dX8_writeGain_19 : decode cX8_writeGain 19 = .ok (.goto (-17), 3) := by decide +kernel
theorem dX8_writeGain_22 : decode cX8_writeGain 22 = .ok (.iload_n 2, 1) := by decide +kernel
theorem dX8_writeGain_23 : decode cX8_writeGain 23 = .ok (.iconst 4, 1) := by decide +kernel
theorem dX8_writeGain_24 : decode cX8_writeGain 24 = .ok (.idiv, 1) := by decide +kernel
theorem dX8_writeGain_25 : decode cX8_writeGain 25 = .ok (.istore_n 3, 1) := by decide +kernel
theorem dX8_writeGain_26 : decode cX8_writeGain 26 = .ok (.iload_n 3, 1) := by decide +kernel
theorem dX8_writeGain_27 : decode cX8_writeGain 27 = .ok (.ifCond .le 24, 3) := by decide +kernel
theorem dX8_writeGain_30 : decode cX8_writeGain 30 = .ok (.aload_n 0, 1) := by decide +kernel
theorem dX8_writeGain_31 : decode cX8_writeGain 31 = .ok (.ldc 29, 2) := by decide +kernel
theorem dX8_writeGain_33 : decode cX8_writeGain 33 = .ok (.iload_n 1, 1) := by decide +kernel
theorem dX8_writeGain_34 : decode cX8_writeGain 34 = .ok (.iload_n 3, 1) := by decide +kernel
theorem dX8_writeGain_35 : decode cX8_writeGain 35 = .ok (.idiv, 1) := by decide +kernel
theorem dX8_writeGain_36 : decode cX8_writeGain 36 = .ok (.iconst 4, 1) := by decide +kernel
theorem dX8_writeGain_37 : decode cX8_writeGain 37 = .ok (.irem, 1) := by decide +kernel
theorem dX8_writeGain_38 : decode cX8_writeGain 38 = .ok (.invokevirtual 37, 3) := by decide +kernel
theorem dX8_writeGain_41 : decode cX8_writeGain 41 = .ok (.invokevirtual 43, 3) := by decide +kernel
theorem dX8_writeGain_44 : decode cX8_writeGain 44 = .ok (.iload_n 3, 1) := by decide +kernel
theorem dX8_writeGain_45 : decode cX8_writeGain 45 = .ok (.iconst 4, 1) := by decide +kernel
theorem dX8_writeGain_46 : decode cX8_writeGain 46 = .ok (.idiv, 1) := by decide +kernel
theorem dX8_writeGain_47 : decode cX8_writeGain 47 = .ok (.istore_n 3, 1) := by decide +kernel
theorem dX8_writeGain_48 : decode cX8_writeGain 48 = .ok (.goto (-22), 3) := by decide +kernel
theorem dX8_writeGain_51 : decode cX8_writeGain 51 = .ok (.return_, 1) := by decide +kernel

theorem dX0_call_0 : decode cX0_call 0 = .ok (.iload_n 1, 1) := by decide +kernel
theorem dX0_call_1 : decode cX0_call 1 = .ok (.ifCond .lt 8, 3) := by decide +kernel
theorem dX0_call_4 : decode cX0_call 4 = .ok (.iload_n 1, 1) := by decide +kernel
theorem dX0_call_5 : decode cX0_call 5 = .ok (.iconst 3, 1) := by decide +kernel
theorem dX0_call_6 : decode cX0_call 6 = .ok (.if_icmp .le 5, 3) := by decide +kernel
theorem dX0_call_9 : decode cX0_call 9 = .ok (.iconst (-1), 1) := by decide +kernel
theorem dX0_call_10 : decode cX0_call 10 = .ok (.ireturn, 1) := by decide +kernel
theorem dX0_call_11 : decode cX0_call 11 = .ok (.aload_n 0, 1) := by decide +kernel
theorem dX0_call_12 : decode cX0_call 12 = .ok (.getfield 26, 3) := by decide +kernel
theorem dX0_call_15 : decode cX0_call 15 = .ok (.aload_n 0, 1) := by decide +kernel
theorem dX0_call_16 : decode cX0_call 16 = .ok (.getfield 68, 3) := by decide +kernel
theorem dX0_call_19 : decode cX0_call 19 = .ok (.invokevirtual 83, 3) := by decide +kernel
theorem dX0_call_22 : decode cX0_call 22 = .ok (.istore_n 2, 1) := by decide +kernel
theorem dX0_call_23 : decode cX0_call 23 = .ok (.iload_n 2, 1) := by decide +kernel
theorem dX0_call_24 : decode cX0_call 24 = .ok (.iconst (-1), 1) := by decide +kernel
theorem dX0_call_25 : decode cX0_call 25 = .ok (.if_icmp .eq 9, 3) := by decide +kernel
theorem dX0_call_28 : decode cX0_call 28 = .ok (.sipush (-1000), 3) := by decide +kernel
theorem dX0_call_31 : decode cX0_call 31 = .ok (.iload_n 2, 1) := by decide +kernel
theorem dX0_call_32 : decode cX0_call 32 = .ok (.isub, 1) := by decide +kernel
theorem dX0_call_33 : decode cX0_call 33 = .ok (.ireturn, 1) := by decide +kernel
theorem dX0_call_34 : decode cX0_call 34 = .ok (.aload_n 0, 1) := by decide +kernel
theorem dX0_call_35 : decode cX0_call 35 = .ok (.getfield 30, 3) := by decide +kernel
theorem dX0_call_38 : decode cX0_call 38 = .ok (.aload_n 0, 1) := by decide +kernel
theorem dX0_call_39 : decode cX0_call 39 = .ok (.getfield 68, 3) := by decide +kernel
theorem dX0_call_42 : decode cX0_call 42 = .ok (.invokevirtual 87, 3) := by decide +kernel
theorem dX0_call_45 : decode cX0_call 45 = .ok (.istore_n 2, 1) := by decide +kernel
theorem dX0_call_46 : decode cX0_call 46 = .ok (.iload_n 2, 1) := by decide +kernel
theorem dX0_call_47 : decode cX0_call 47 = .ok (.iconst (-1), 1) := by decide +kernel
theorem dX0_call_48 : decode cX0_call 48 = .ok (.if_icmp .eq 9, 3) := by decide +kernel
theorem dX0_call_51 : decode cX0_call 51 = .ok (.sipush (-2000), 3) := by decide +kernel
theorem dX0_call_54 : decode cX0_call 54 = .ok (.iload_n 2, 1) := by decide +kernel
theorem dX0_call_55 : decode cX0_call 55 = .ok (.isub, 1) := by decide +kernel
theorem dX0_call_56 : decode cX0_call 56 = .ok (.ireturn, 1) := by decide +kernel
theorem dX0_call_57 : decode cX0_call 57 = .ok (.aload_n 0, 1) := by decide +kernel
theorem dX0_call_58 : decode cX0_call 58 = .ok (.invokevirtual 90, 3) := by decide +kernel
theorem dX0_call_61 : decode cX0_call 61 = .ok (.aload_n 0, 1) := by decide +kernel
theorem dX0_call_62 : decode cX0_call 62 = .ok (.getfield 43, 3) := by decide +kernel
theorem dX0_call_65 : decode cX0_call 65 = .ok (.invokevirtual 93, 3) := by decide +kernel
theorem dX0_call_68 : decode cX0_call 68 = .ok (.iconst 0, 1) := by decide +kernel
theorem dX0_call_69 : decode cX0_call 69 = .ok (.istore_n 3, 1) := by decide +kernel
theorem dX0_call_70 : decode cX0_call 70 = .ok (.iload_n 3, 1) := by decide +kernel
theorem dX0_call_71 : decode cX0_call 71 = .ok (.aload_n 0, 1) := by decide +kernel
theorem dX0_call_72 : decode cX0_call 72 = .ok (.getfield 64, 3) := by decide +kernel
theorem dX0_call_75 : decode cX0_call 75 = .ok (.getfield 96, 3) := by decide +kernel
theorem dX0_call_78 : decode cX0_call 78 = .ok (.if_icmp .ge 46, 3) := by decide +kernel
theorem dX0_call_81 : decode cX0_call 81 = .ok (.aload_n 0, 1) := by decide +kernel
theorem dX0_call_82 : decode cX0_call 82 = .ok (.getfield 36, 3) := by decide +kernel
theorem dX0_call_85 : decode cX0_call 85 = .ok (.aload_n 0, 1) := by decide +kernel
theorem dX0_call_86 : decode cX0_call 86 = .ok (.getfield 64, 3) := by decide +kernel
theorem dX0_call_89 : decode cX0_call 89 = .ok (.getfield 99, 3) := by decide +kernel
theorem dX0_call_92 : decode cX0_call 92 = .ok (.iload_n 3, 1) := by decide +kernel
theorem dX0_call_93 : decode cX0_call 93 = .ok (.aaload, 1) := by decide +kernel
theorem dX0_call_94 : decode cX0_call 94 = .ok (.aload_n 0, 1) := by decide +kernel
theorem dX0_call_95 : decode cX0_call 95 = .ok (.getfield 64, 3) := by decide +kernel
theorem dX0_call_98 : decode cX0_call 98 = .ok (.iload_n 1, 1) := by decide +kernel
theorem dX0_call_99 : decode cX0_call 99 = .ok (.invokevirtual 103, 3) := by decide +kernel
theorem dX0_call_102 : decode cX0_call 102 = .ok (.aload_n 0, 1) := by decide +kernel
theorem dX0_call_103 : decode cX0_call 103 = .ok (.getfield 43, 3) := by decide +kernel
theorem dX0_call_106 : decode cX0_call 106 = .ok (.aload_n 0, 1) := by decide +kernel
theorem dX0_call_107 : decode cX0_call 107 = .ok (.getfield 64, 3) := by decide +kernel
theorem dX0_call_110 : decode cX0_call 110 = .ok (.getfield 99, 3) := by decide +kernel
theorem dX0_call_113 : decode cX0_call 113 = .ok (.iload_n 3, 1) := by decide +kernel
theorem dX0_call_114 : decode cX0_call 114 = .ok (.aaload, 1) := by decide +kernel
theorem dX0_call_115 : decode cX0_call 115 = .ok (.invokevirtual 107, 3) := by decide +kernel
theorem dX0_call_118 : decode cX0_call 118 = .ok (.iinc 3 1, 3) := by decide +kernel
theorem dX0_call_121 : decode cX0_call 121 = .ok (.goto (-51), 3) := by decide +kernel
theorem dX0_call_124 : decode cX0_call 124 = .ok (.aload_n 0, 1) := by decide +kernel
theorem dX0_call_125 : decode cX0_call 125 = .ok (.invokevirtual 111, 3) := by decide +kernel
theorem dX0_call_128 : decode cX0_call 128 = .ok (.ireturn, 1) := by decide +kernel
theorem dX0_clear_0 : decode cX0_clear 0 = .ok (.aload_n 0, 1) := by decide +kernel
theorem dX0_clear_1 : decode cX0_clear 1 = .ok (.iload_n 1, 1) := by decide +kernel
theorem dX0_clear_2 : decode cX0_clear 2 = .ok (.invokevirtual 71, 3) := by decide +kernel
theorem dX0_clear_5 : decode cX0_clear 5 = .ok (.astore_n 2, 1) := by decide +kernel
theorem dX0_clear_6 : decode cX0_clear 6 = .ok (.aload_n 2, 1) := by decide +kernel
theorem dX0_clear_7 : decode cX0_clear 7 = .ok (.ifnonnull 5, 3) := by decide +kernel
theorem dX0_clear_10 : decode cX0_clear 10 = .ok (.iconst 0, 1) := by decide +kernel
theorem dX0_clear_11 : decode cX0_clear 11 = .ok (.ireturn, 1) := by decide +kernel
theorem dX0_clear_12 : decode cX0_clear 12 = .ok (.aload_n 2, 1) := by decide +kernel
theorem dX0_clear_13 : decode cX0_clear 13 = .ok (.iconst 0, 1) := by decide +kernel
theorem dX0_clear_14 : decode cX0_clear 14 = .ok (.putfield 79, 3) := by decide +kernel
theorem dX0_clear_17 : decode cX0_clear 17 = .ok (.iconst 1, 1) := by decide +kernel
theorem dX0_clear_18 : decode cX0_clear 18 = .ok (.ireturn, 1) := by decide +kernel
theorem dX0_length_0 : decode cX0_length 0 = .ok (.aload_n 0, 1) := by decide +kernel
theorem dX0_length_1 : decode cX0_length 1 = .ok (.getfield 57, 3) := by decide +kernel
theorem dX0_length_4 : decode cX0_length 4 = .ok (.getfield 145, 3) := by decide +kernel
theorem dX0_length_7 : decode cX0_length 7 = .ok (.ireturn, 1) := by decide +kernel
theorem dX0_letter_0 : decode cX0_letter 0 = .ok (.iload_n 1, 1) := by decide +kernel
theorem dX0_letter_1 : decode cX0_letter 1 = .ok (.ifCond .lt 14, 3) := by decide +kernel
theorem dX0_letter_4 : decode cX0_letter 4 = .ok (.iload_n 1, 1) := by decide +kernel
theorem dX0_letter_5 : decode cX0_letter 5 = .ok (.aload_n 0, 1) := by decide +kernel
theorem dX0_letter_6 : decode cX0_letter 6 = .ok (.getfield 57, 3) := by decide +kernel
theorem dX0_letter_9 : decode cX0_letter 9 = .ok (.getfield 145, 3) := by decide +kernel
theorem dX0_letter_12 : decode cX0_letter 12 = .ok (.if_icmp .lt 7, 3) := by decide +kernel
theorem dX0_letter_15 : decode cX0_letter 15 = .ok (.iconst 0, 1) := by decide +kernel
theorem dX0_letter_16 : decode cX0_letter 16 = .ok (.goto 12, 3) := by decide +kernel
theorem dX0_letter_19 : decode cX0_letter 19 = .ok (.aload_n 0, 1) := by decide +kernel
theorem dX0_letter_20 : decode cX0_letter 20 = .ok (.getfield 57, 3) := by decide +kernel
theorem dX0_letter_23 : decode cX0_letter 23 = .ok (.getfield 146, 3) := by decide +kernel
theorem dX0_letter_26 : decode cX0_letter 26 = .ok (.iload_n 1, 1) := by decide +kernel
theorem dX0_letter_27 : decode cX0_letter 27 = .ok (.caload, 1) := by decide +kernel
theorem dX0_letter_28 : decode cX0_letter 28 = .ok (.ireturn, 1) := by decide +kernel
theorem dX0_links_0 : decode cX0_links 0 = .ok (.iload_n 1, 1) := by decide +kernel
theorem dX0_links_1 : decode cX0_links 1 = .ok (.ifCond .lt 14, 3) := by decide +kernel
theorem dX0_links_4 : decode cX0_links 4 = .ok (.iload_n 1, 1) := by decide +kernel
theorem dX0_links_5 : decode cX0_links 5 = .ok (.aload_n 0, 1) := by decide +kernel
theorem dX0_links_6 : decode cX0_links 6 = .ok (.getfield 64, 3) := by decide +kernel
theorem dX0_links_9 : decode cX0_links 9 = .ok (.getfield 127, 3) := by decide +kernel
theorem dX0_links_12 : decode cX0_links 12 = .ok (.if_icmp .lt 5, 3) := by decide +kernel
theorem dX0_links_15 : decode cX0_links 15 = .ok (.iconst 0, 1) := by decide +kernel
theorem dX0_links_16 : decode cX0_links 16 = .ok (.ireturn, 1) := by decide +kernel
theorem dX0_links_17 : decode cX0_links 17 = .ok (.aload_n 0, 1) := by decide +kernel
theorem dX0_links_18 : decode cX0_links 18 = .ok (.getfield 43, 3) := by decide +kernel
theorem dX0_links_21 : decode cX0_links 21 = .ok (.getfield 139, 3) := by decide +kernel
theorem dX0_links_24 : decode cX0_links 24 = .ok (.iload_n 1, 1) := by decide +kernel
theorem dX0_links_25 : decode cX0_links 25 = .ok (.aaload, 1) := by decide +kernel
theorem dX0_links_26 : decode cX0_links 26 = .ok (.iload_n 2, 1) := by decide +kernel
theorem dX0_links_27 : decode cX0_links 27 = .ok (.invokevirtual 142, 3) := by decide +kernel
theorem dX0_links_30 : decode cX0_links 30 = .ok (.ireturn, 1) := by decide +kernel
theorem dX0_place_0 : decode cX0_place 0 = .ok (.iload_n 1, 1) := by decide +kernel
theorem dX0_place_1 : decode cX0_place 1 = .ok (.ifCond .lt 14, 3) := by decide +kernel
theorem dX0_place_4 : decode cX0_place 4 = .ok (.iload_n 1, 1) := by decide +kernel
theorem dX0_place_5 : decode cX0_place 5 = .ok (.aload_n 0, 1) := by decide +kernel
theorem dX0_place_6 : decode cX0_place 6 = .ok (.getfield 64, 3) := by decide +kernel
theorem dX0_place_9 : decode cX0_place 9 = .ok (.getfield 96, 3) := by decide +kernel
theorem dX0_place_12 : decode cX0_place 12 = .ok (.if_icmp .lt 5, 3) := by decide +kernel
theorem dX0_place_15 : decode cX0_place 15 = .ok (.iconst (-1), 1) := by decide +kernel
theorem dX0_place_16 : decode cX0_place 16 = .ok (.ireturn, 1) := by decide +kernel
theorem dX0_place_17 : decode cX0_place 17 = .ok (.aload_n 0, 1) := by decide +kernel
theorem dX0_place_18 : decode cX0_place 18 = .ok (.getfield 64, 3) := by decide +kernel
theorem dX0_place_21 : decode cX0_place 21 = .ok (.getfield 99, 3) := by decide +kernel
theorem dX0_place_24 : decode cX0_place 24 = .ok (.iload_n 1, 1) := by decide +kernel
theorem dX0_place_25 : decode cX0_place 25 = .ok (.aaload, 1) := by decide +kernel
theorem dX0_place_26 : decode cX0_place 26 = .ok (.astore_n 3, 1) := by decide +kernel
theorem dX0_place_27 : decode cX0_place 27 = .ok (.iload_n 2, 1) := by decide +kernel
theorem dX0_place_28 : decode cX0_place 28 = .ok (.ifCond .ne 8, 3) := by decide +kernel
theorem dX0_place_31 : decode cX0_place 31 = .ok (.aload_n 3, 1) := by decide +kernel
theorem dX0_place_32 : decode cX0_place 32 = .ok (.getfield 115, 3) := by decide +kernel
theorem dX0_place_35 : decode cX0_place 35 = .ok (.ireturn, 1) := by decide +kernel
theorem dX0_place_36 : decode cX0_place 36 = .ok (.aload_n 3, 1) := by decide +kernel
theorem dX0_place_37 : decode cX0_place 37 = .ok (.getfield 115, 3) := by decide +kernel
theorem dX0_place_40 : decode cX0_place 40 = .ok (.ifCond .ne 11, 3) := by decide +kernel
theorem dX0_place_43 : decode cX0_place 43 = .ok (.aload_n 3, 1) := by decide +kernel
theorem dX0_place_44 : decode cX0_place 44 = .ok (.iload_n 2, 1) := by decide +kernel
theorem dX0_place_45 : decode cX0_place 45 = .ok (.invokevirtual 120, 3) := by decide +kernel
theorem dX0_place_48 : decode cX0_place 48 = .ok (.goto 4, 3) := by decide +kernel
theorem dX0_place_51 : decode cX0_place 51 = .ok (.iconst (-1), 1) := by decide +kernel
theorem dX0_place_52 : decode cX0_place 52 = .ok (.ireturn, 1) := by decide +kernel
theorem dX0_put_0 : decode cX0_put 0 = .ok (.aload_n 0, 1) := by decide +kernel
theorem dX0_put_1 : decode cX0_put 1 = .ok (.iload_n 1, 1) := by decide +kernel
theorem dX0_put_2 : decode cX0_put 2 = .ok (.invokevirtual 71, 3) := by decide +kernel
theorem dX0_put_5 : decode cX0_put 5 = .ok (.astore 4, 2) := by decide +kernel
theorem dX0_put_7 : decode cX0_put 7 = .ok (.aload 4, 2) := by decide +kernel
theorem dX0_put_9 : decode cX0_put 9 = .ok (.ifnull 17, 3) := by decide +kernel
theorem dX0_put_12 : decode cX0_put 12 = .ok (.aload 4, 2) := by decide +kernel
theorem dX0_put_14 : decode cX0_put 14 = .ok (.iload_n 2, 1) := by decide +kernel
theorem dX0_put_15 : decode cX0_put 15 = .ok (.iload_n 3, 1) := by decide +kernel
theorem dX0_put_16 : decode cX0_put 16 = .ok (.invokevirtual 75, 3) := by decide +kernel
theorem dX0_put_19 : decode cX0_put 19 = .ok (.ifCond .eq 7, 3) := by decide +kernel
theorem dX0_put_22 : decode cX0_put 22 = .ok (.iconst 1, 1) := by decide +kernel
theorem dX0_put_23 : decode cX0_put 23 = .ok (.goto 4, 3) := by decide +kernel
theorem dX0_put_26 : decode cX0_put 26 = .ok (.iconst 0, 1) := by decide +kernel
theorem dX0_put_27 : decode cX0_put 27 = .ok (.ireturn, 1) := by decide +kernel
theorem dX0_reads_0 : decode cX0_reads 0 = .ok (.aload_n 0, 1) := by decide +kernel
theorem dX0_reads_1 : decode cX0_reads 1 = .ok (.getfield 64, 3) := by decide +kernel
theorem dX0_reads_4 : decode cX0_reads 4 = .ok (.getfield 96, 3) := by decide +kernel
theorem dX0_reads_7 : decode cX0_reads 7 = .ok (.ireturn, 1) := by decide +kernel
theorem dX0_reportSites_0 : decode cX0_reportSites 0 = .ok (.iconst 0, 1) := by decide +kernel
theorem dX0_reportSites_1 : decode cX0_reportSites 1 = .ok (.istore_n 1, 1) := by decide +kernel
theorem dX0_reportSites_2 : decode cX0_reportSites 2 = .ok (.aload_n 0, 1) := by decide +kernel
theorem dX0_reportSites_3 : decode cX0_reportSites 3 = .ok (.getfield 57, 3) := by decide +kernel
theorem dX0_reportSites_6 : decode cX0_reportSites 6 = .ok (.invokevirtual 150, 3) := by decide +kernel
theorem dX0_reportSites_9 : decode cX0_reportSites 9 = .ok (.iconst 0, 1) := by decide +kernel
theorem dX0_reportSites_10 : decode cX0_reportSites 10 = .ok (.istore_n 2, 1) := by decide +kernel
theorem dX0_reportSites_11 : decode cX0_reportSites 11 = .ok (.iload_n 2, 1) := by decide +kernel
theorem dX0_reportSites_12 : decode cX0_reportSites 12 = .ok (.aload_n 0, 1) := by decide +kernel
theorem dX0_reportSites_13 : decode cX0_reportSites 13 = .ok (.getfield 64, 3) := by decide +kernel
theorem dX0_reportSites_16 : decode cX0_reportSites 16 = .ok (.getfield 127, 3) := by decide +kernel
theorem dX0_reportSites_19 : decode cX0_reportSites 19 = .ok (.if_icmp .ge 109, 3) := by decide +kernel
theorem dX0_reportSites_22 : decode cX0_reportSites 22 = .ok (.aload_n 0, 1) := by decide +kernel
theorem dX0_reportSites_23 : decode cX0_reportSites 23 = .ok (.getfield 50, 3) := by decide +kernel
theorem dX0_reportSites_26 : decode cX0_reportSites 26 = .ok (.aload_n 0, 1) := by decide +kernel
theorem dX0_reportSites_27 : decode cX0_reportSites 27 = .ok (.getfield 43, 3) := by decide +kernel
theorem dX0_reportSites_30 : decode cX0_reportSites 30 = .ok (.getfield 130, 3) := by decide +kernel
theorem dX0_reportSites_33 : decode cX0_reportSites 33 = .ok (.iload_n 2, 1) := by decide +kernel
theorem dX0_reportSites_34 : decode cX0_reportSites 34 = .ok (.aaload, 1) := by decide +kernel
theorem dX0_reportSites_35 : decode cX0_reportSites 35 = .ok (.aload_n 0, 1) := by decide +kernel
theorem dX0_reportSites_36 : decode cX0_reportSites 36 = .ok (.getfield 64, 3) := by decide +kernel
theorem dX0_reportSites_39 : decode cX0_reportSites 39 = .ok (.getfield 153, 3) := by decide +kernel
theorem dX0_reportSites_42 : decode cX0_reportSites 42 = .ok (.iload_n 2, 1) := by decide +kernel
theorem dX0_reportSites_43 : decode cX0_reportSites 43 = .ok (.iaload, 1) := by decide +kernel
theorem dX0_reportSites_44 : decode cX0_reportSites 44 = .ok (.invokevirtual 156, 3) := by decide +kernel
theorem dX0_reportSites_47 : decode cX0_reportSites 47 = .ok (.aload_n 0, 1) := by decide +kernel
theorem dX0_reportSites_48 : decode cX0_reportSites 48 = .ok (.getfield 50, 3) := by decide +kernel
theorem dX0_reportSites_51 : decode cX0_reportSites 51 = .ok (.invokevirtual 160, 3) := by decide +kernel
theorem dX0_reportSites_54 : decode cX0_reportSites 54 = .ok (.ifCond .eq 22, 3) := by decide +kernel
theorem dX0_reportSites_57 : decode cX0_reportSites 57 = .ok (.aload_n 0, 1) := by decide +kernel
theorem dX0_reportSites_58 : decode cX0_reportSites 58 = .ok (.getfield 57, 3) := by decide +kernel
theorem dX0_reportSites_61 : decode cX0_reportSites 61 = .ok (.aload_n 0, 1) := by decide +kernel
theorem dX0_reportSites_62 : decode cX0_reportSites 62 = .ok (.getfield 64, 3) := by decide +kernel
theorem dX0_reportSites_65 : decode cX0_reportSites 65 = .ok (.iload_n 2, 1) := by decide +kernel
theorem dX0_reportSites_66 : decode cX0_reportSites 66 = .ok (.aload_n 0, 1) := by decide +kernel
theorem dX0_reportSites_67 : decode cX0_reportSites 67 = .ok (.getfield 50, 3) := by decide +kernel
theorem dX0_reportSites_70 : decode cX0_reportSites 70 = .ok (.invokevirtual 164, 3) := by decide +kernel
theorem dX0_reportSites_73 : decode cX0_reportSites 73 = .ok (.iinc 1 1, 3) := by decide +kernel
theorem dX0_reportSites_76 : decode cX0_reportSites 76 = .ok (.aload_n 0, 1) := by decide +kernel
theorem dX0_reportSites_77 : decode cX0_reportSites 77 = .ok (.getfield 50, 3) := by decide +kernel
theorem dX0_reportSites_80 : decode cX0_reportSites 80 = .ok (.aload_n 0, 1) := by decide +kernel
theorem dX0_reportSites_81 : decode cX0_reportSites 81 = .ok (.getfield 43, 3) := by decide +kernel
theorem dX0_reportSites_84 : decode cX0_reportSites 84 = .ok (.getfield 139, 3) := by decide +kernel
theorem dX0_reportSites_87 : decode cX0_reportSites 87 = .ok (.iload_n 2, 1) := by decide +kernel
theorem dX0_reportSites_88 : decode cX0_reportSites 88 = .ok (.aaload, 1) := by decide +kernel
theorem dX0_reportSites_89 : decode cX0_reportSites 89 = .ok (.iconst 0, 1) := by decide +kernel
theorem dX0_reportSites_90 : decode cX0_reportSites 90 = .ok (.invokevirtual 156, 3) := by decide +kernel
theorem dX0_reportSites_93 : decode cX0_reportSites 93 = .ok (.aload_n 0, 1) := by decide +kernel
theorem dX0_reportSites_94 : decode cX0_reportSites 94 = .ok (.getfield 50, 3) := by decide +kernel
theorem dX0_reportSites_97 : decode cX0_reportSites 97 = .ok (.invokevirtual 160, 3) := by decide +kernel
theorem dX0_reportSites_100 : decode cX0_reportSites 100 = .ok (.ifCond .eq 22, 3) := by decide +kernel
theorem dX0_reportSites_103 : decode cX0_reportSites 103 = .ok (.aload_n 0, 1) := by decide +kernel
theorem dX0_reportSites_104 : decode cX0_reportSites 104 = .ok (.getfield 57, 3) := by decide +kernel
theorem dX0_reportSites_107 : decode cX0_reportSites 107 = .ok (.aload_n 0, 1) := by decide +kernel
theorem dX0_reportSites_108 : decode cX0_reportSites 108 = .ok (.getfield 64, 3) := by decide +kernel
theorem dX0_reportSites_111 : decode cX0_reportSites 111 = .ok (.iload_n 2, 1) := by decide +kernel
theorem dX0_reportSites_112 : decode cX0_reportSites 112 = .ok (.aload_n 0, 1) := by decide +kernel
theorem dX0_reportSites_113 : decode cX0_reportSites 113 = .ok (.getfield 50, 3) := by decide +kernel
theorem dX0_reportSites_116 : decode cX0_reportSites 116 = .ok (.invokevirtual 168, 3) := by decide +kernel
theorem dX0_reportSites_119 : decode cX0_reportSites 119 = .ok (.iinc 1 1, 3) := by decide +kernel
theorem dX0_reportSites_122 : decode cX0_reportSites 122 = .ok (.iinc 2 1, 3) := by decide +kernel
theorem dX0_reportSites_125 : decode cX0_reportSites 125 = .ok (.goto (-114), 3) := by decide +kernel
theorem dX0_reportSites_128 : decode cX0_reportSites 128 = .ok (.iload_n 1, 1) := by decide +kernel
theorem dX0_reportSites_129 : decode cX0_reportSites 129 = .ok (.ireturn, 1) := by decide +kernel
theorem dX0_seen_0 : decode cX0_seen 0 = .ok (.iload_n 1, 1) := by decide +kernel
theorem dX0_seen_1 : decode cX0_seen 1 = .ok (.ifCond .lt 23, 3) := by decide +kernel
theorem dX0_seen_4 : decode cX0_seen 4 = .ok (.iload_n 1, 1) := by decide +kernel
theorem dX0_seen_5 : decode cX0_seen 5 = .ok (.aload_n 0, 1) := by decide +kernel
theorem dX0_seen_6 : decode cX0_seen 6 = .ok (.getfield 64, 3) := by decide +kernel
theorem dX0_seen_9 : decode cX0_seen 9 = .ok (.getfield 127, 3) := by decide +kernel
theorem dX0_seen_12 : decode cX0_seen 12 = .ok (.if_icmp .ge 12, 3) := by decide +kernel
theorem dX0_seen_15 : decode cX0_seen 15 = .ok (.iload_n 2, 1) := by decide +kernel
theorem dX0_seen_16 : decode cX0_seen 16 = .ok (.ifCond .lt 8, 3) := by decide +kernel
theorem dX0_seen_19 : decode cX0_seen 19 = .ok (.iload_n 2, 1) := by decide +kernel
theorem dX0_seen_20 : decode cX0_seen 20 = .ok (.iconst 4, 1) := by decide +kernel
theorem dX0_seen_21 : decode cX0_seen 21 = .ok (.if_icmp .lt 5, 3) := by decide +kernel
theorem dX0_seen_24 : decode cX0_seen 24 = .ok (.iconst 0, 1) := by decide +kernel
theorem dX0_seen_25 : decode cX0_seen 25 = .ok (.ireturn, 1) := by decide +kernel
theorem dX0_seen_26 : decode cX0_seen 26 = .ok (.aload_n 0, 1) := by decide +kernel
theorem dX0_seen_27 : decode cX0_seen 27 = .ok (.getfield 43, 3) := by decide +kernel
theorem dX0_seen_30 : decode cX0_seen 30 = .ok (.getfield 130, 3) := by decide +kernel
theorem dX0_seen_33 : decode cX0_seen 33 = .ok (.iload_n 1, 1) := by decide +kernel
theorem dX0_seen_34 : decode cX0_seen 34 = .ok (.aaload, 1) := by decide +kernel
theorem dX0_seen_35 : decode cX0_seen 35 = .ok (.iload_n 2, 1) := by decide +kernel
theorem dX0_seen_36 : decode cX0_seen 36 = .ok (.invokevirtual 134, 3) := by decide +kernel
theorem dX0_seen_39 : decode cX0_seen 39 = .ok (.ireturn, 1) := by decide +kernel
theorem dX0_showDraft_0 : decode cX0_showDraft 0 = .ok (.aload_n 0, 1) := by decide +kernel
theorem dX0_showDraft_1 : decode cX0_showDraft 1 = .ok (.getfield 64, 3) := by decide +kernel
theorem dX0_showDraft_4 : decode cX0_showDraft 4 = .ok (.astore_n 1, 1) := by decide +kernel
theorem dX0_showDraft_5 : decode cX0_showDraft 5 = .ok (.aload_n 0, 1) := by decide +kernel
theorem dX0_showDraft_6 : decode cX0_showDraft 6 = .ok (.aload_n 0, 1) := by decide +kernel
theorem dX0_showDraft_7 : decode cX0_showDraft 7 = .ok (.getfield 68, 3) := by decide +kernel
theorem dX0_showDraft_10 : decode cX0_showDraft 10 = .ok (.putfield 64, 3) := by decide +kernel
theorem dX0_showDraft_13 : decode cX0_showDraft 13 = .ok (.aload_n 0, 1) := by decide +kernel
theorem dX0_showDraft_14 : decode cX0_showDraft 14 = .ok (.aload_n 1, 1) := by decide +kernel
theorem dX0_showDraft_15 : decode cX0_showDraft 15 = .ok (.putfield 68, 3) := by decide +kernel
theorem dX0_showDraft_18 : decode cX0_showDraft 18 = .ok (.return_, 1) := by decide +kernel
theorem dX0_size_0 : decode cX0_size 0 = .ok (.aload_n 0, 1) := by decide +kernel
theorem dX0_size_1 : decode cX0_size 1 = .ok (.iload_n 1, 1) := by decide +kernel
theorem dX0_size_2 : decode cX0_size 2 = .ok (.invokevirtual 71, 3) := by decide +kernel
theorem dX0_size_5 : decode cX0_size 5 = .ok (.astore_n 2, 1) := by decide +kernel
theorem dX0_size_6 : decode cX0_size 6 = .ok (.aload_n 2, 1) := by decide +kernel
theorem dX0_size_7 : decode cX0_size 7 = .ok (.ifnonnull 7, 3) := by decide +kernel
theorem dX0_size_10 : decode cX0_size 10 = .ok (.iconst (-1), 1) := by decide +kernel
theorem dX0_size_11 : decode cX0_size 11 = .ok (.goto 7, 3) := by decide +kernel
theorem dX0_size_14 : decode cX0_size 14 = .ok (.aload_n 2, 1) := by decide +kernel
theorem dX0_size_15 : decode cX0_size 15 = .ok (.getfield 79, 3) := by decide +kernel
theorem dX0_size_18 : decode cX0_size 18 = .ok (.ireturn, 1) := by decide +kernel
theorem dX0_step_0 : decode cX0_step 0 = .ok (.iload_n 1, 1) := by decide +kernel
theorem dX0_step_1 : decode cX0_step 1 = .ok (.ifCond .lt 14, 3) := by decide +kernel
theorem dX0_step_4 : decode cX0_step 4 = .ok (.iload_n 1, 1) := by decide +kernel
theorem dX0_step_5 : decode cX0_step 5 = .ok (.aload_n 0, 1) := by decide +kernel
theorem dX0_step_6 : decode cX0_step 6 = .ok (.getfield 64, 3) := by decide +kernel
theorem dX0_step_9 : decode cX0_step 9 = .ok (.getfield 96, 3) := by decide +kernel
theorem dX0_step_12 : decode cX0_step 12 = .ok (.if_icmp .lt 5, 3) := by decide +kernel
theorem dX0_step_15 : decode cX0_step 15 = .ok (.iconst 0, 1) := by decide +kernel
theorem dX0_step_16 : decode cX0_step 16 = .ok (.ireturn, 1) := by decide +kernel
theorem dX0_step_17 : decode cX0_step 17 = .ok (.aload_n 0, 1) := by decide +kernel
theorem dX0_step_18 : decode cX0_step 18 = .ok (.getfield 64, 3) := by decide +kernel
theorem dX0_step_21 : decode cX0_step 21 = .ok (.getfield 99, 3) := by decide +kernel
theorem dX0_step_24 : decode cX0_step 24 = .ok (.iload_n 1, 1) := by decide +kernel
theorem dX0_step_25 : decode cX0_step 25 = .ok (.aaload, 1) := by decide +kernel
theorem dX0_step_26 : decode cX0_step 26 = .ok (.iload_n 2, 1) := by decide +kernel
theorem dX0_step_27 : decode cX0_step 27 = .ok (.invokevirtual 124, 3) := by decide +kernel
theorem dX0_step_30 : decode cX0_step 30 = .ok (.ireturn, 1) := by decide +kernel
theorem dX0_textOf_0 : decode cX0_textOf 0 = .ok (.iload_n 1, 1) := by decide +kernel
theorem dX0_textOf_1 : decode cX0_textOf 1 = .ok (.ifCond .ne 8, 3) := by decide +kernel
theorem dX0_textOf_4 : decode cX0_textOf 4 = .ok (.aload_n 0, 1) := by decide +kernel
theorem dX0_textOf_5 : decode cX0_textOf 5 = .ok (.getfield 14, 3) := by decide +kernel
theorem dX0_textOf_8 : decode cX0_textOf 8 = .ok (.areturn, 1) := by decide +kernel
theorem dX0_textOf_9 : decode cX0_textOf 9 = .ok (.iload_n 1, 1) := by decide +kernel
theorem dX0_textOf_10 : decode cX0_textOf 10 = .ok (.iconst 1, 1) := by decide +kernel
theorem dX0_textOf_11 : decode cX0_textOf 11 = .ok (.if_icmp .ne 10, 3) := by decide +kernel
theorem dX0_textOf_14 : decode cX0_textOf 14 = .ok (.aload_n 0, 1) := by decide +kernel
theorem dX0_textOf_15 : decode cX0_textOf 15 = .ok (.getfield 18, 3) := by decide +kernel
theorem dX0_textOf_18 : decode cX0_textOf 18 = .ok (.goto 4, 3) := by decide +kernel
theorem dX0_textOf_21 : decode cX0_textOf 21 = .ok (.aconst_null, 1) := by decide +kernel
theorem dX0_textOf_22 : decode cX0_textOf 22 = .ok (.areturn, 1) := by decide +kernel
theorem dX1_change_0 : decode cX1_change 0 = .ok (.aload_n 0, 1) := by decide +kernel
theorem dX1_change_1 : decode cX1_change 1 = .ok (.getfield 103, 3) := by decide +kernel
theorem dX1_change_4 : decode cX1_change 4 = .ok (.iload_n 3, 1) := by decide +kernel
theorem dX1_change_5 : decode cX1_change 5 = .ok (.iconst 1, 1) := by decide +kernel
theorem dX1_change_6 : decode cX1_change 6 = .ok (.isub, 1) := by decide +kernel
theorem dX1_change_7 : decode cX1_change 7 = .ok (.iaload, 1) := by decide +kernel
theorem dX1_change_8 : decode cX1_change 8 = .ok (.aload_n 1, 1) := by decide +kernel
theorem dX1_change_9 : decode cX1_change 9 = .ok (.getfield 107, 3) := by decide +kernel
theorem dX1_change_12 : decode cX1_change 12 = .ok (.iload_n 2, 1) := by decide +kernel
theorem dX1_change_13 : decode cX1_change 13 = .ok (.iload 4, 2) := by decide +kernel
theorem dX1_change_15 : decode cX1_change 15 = .ok (.iadd, 1) := by decide +kernel
theorem dX1_change_16 : decode cX1_change 16 = .ok (.iconst 1, 1) := by decide +kernel
theorem dX1_change_17 : decode cX1_change 17 = .ok (.isub, 1) := by decide +kernel
theorem dX1_change_18 : decode cX1_change 18 = .ok (.iaload, 1) := by decide +kernel
theorem dX1_change_19 : decode cX1_change 19 = .ok (.if_icmp .ne 7, 3) := by decide +kernel
theorem dX1_change_22 : decode cX1_change 22 = .ok (.iconst 0, 1) := by decide +kernel
theorem dX1_change_23 : decode cX1_change 23 = .ok (.goto 4, 3) := by decide +kernel
theorem dX1_change_26 : decode cX1_change 26 = .ok (.iconst 1, 1) := by decide +kernel
theorem dX1_change_27 : decode cX1_change 27 = .ok (.ireturn, 1) := by decide +kernel
theorem dX1_consider_0 : decode cX1_consider 0 = .ok (.iload_n 3, 1) := by decide +kernel
theorem dX1_consider_1 : decode cX1_consider 1 = .ok (.aload_n 0, 1) := by decide +kernel
theorem dX1_consider_2 : decode cX1_consider 2 = .ok (.getfield 16, 3) := by decide +kernel
theorem dX1_consider_5 : decode cX1_consider 5 = .ok (.if_icmp .le 4, 3) := by decide +kernel
theorem dX1_consider_8 : decode cX1_consider 8 = .ok (.return_, 1) := by decide +kernel
theorem dX1_consider_9 : decode cX1_consider 9 = .ok (.aload_n 0, 1) := by decide +kernel
theorem dX1_consider_10 : decode cX1_consider 10 = .ok (.getfield 20, 3) := by decide +kernel
theorem dX1_consider_13 : decode cX1_consider 13 = .ok (.ifCond .eq 11, 3) := by decide +kernel
theorem dX1_consider_16 : decode cX1_consider 16 = .ok (.iload_n 3, 1) := by decide +kernel
theorem dX1_consider_17 : decode cX1_consider 17 = .ok (.aload_n 0, 1) := by decide +kernel
theorem dX1_consider_18 : decode cX1_consider 18 = .ok (.getfield 16, 3) := by decide +kernel
theorem dX1_consider_21 : decode cX1_consider 21 = .ok (.if_icmp .ge 7, 3) := by decide +kernel
theorem dX1_consider_24 : decode cX1_consider 24 = .ok (.iconst 1, 1) := by decide +kernel
theorem dX1_consider_25 : decode cX1_consider 25 = .ok (.goto 4, 3) := by decide +kernel
theorem dX1_consider_28 : decode cX1_consider 28 = .ok (.iconst 0, 1) := by decide +kernel
theorem dX1_consider_29 : decode cX1_consider 29 = .ok (.istore 5, 2) := by decide +kernel
theorem dX1_consider_31 : decode cX1_consider 31 = .ok (.aload_n 0, 1) := by decide +kernel
theorem dX1_consider_32 : decode cX1_consider 32 = .ok (.iconst 1, 1) := by decide +kernel
theorem dX1_consider_33 : decode cX1_consider 33 = .ok (.putfield 20, 3) := by decide +kernel
theorem dX1_consider_36 : decode cX1_consider 36 = .ok (.aload_n 0, 1) := by decide +kernel
theorem dX1_consider_37 : decode cX1_consider 37 = .ok (.iload_n 3, 1) := by decide +kernel
theorem dX1_consider_38 : decode cX1_consider 38 = .ok (.putfield 16, 3) := by decide +kernel
theorem dX1_consider_41 : decode cX1_consider 41 = .ok (.aload_n 0, 1) := by decide +kernel
theorem dX1_consider_42 : decode cX1_consider 42 = .ok (.iload 5, 2) := by decide +kernel
theorem dX1_consider_44 : decode cX1_consider 44 = .ok (.ifCond .eq 7, 3) := by decide +kernel
theorem dX1_consider_47 : decode cX1_consider 47 = .ok (.iload_n 2, 1) := by decide +kernel
theorem dX1_consider_48 : decode cX1_consider 48 = .ok (.goto 11, 3) := by decide +kernel
theorem dX1_consider_51 : decode cX1_consider 51 = .ok (.aload_n 0, 1) := by decide +kernel
theorem dX1_consider_52 : decode cX1_consider 52 = .ok (.getfield 33, 3) := by decide +kernel
theorem dX1_consider_55 : decode cX1_consider 55 = .ok (.iload_n 2, 1) := by decide +kernel
theorem dX1_consider_56 : decode cX1_consider 56 = .ok (.invokestatic 85, 3) := by decide +kernel
theorem dX1_consider_59 : decode cX1_consider 59 = .ok (.putfield 33, 3) := by decide +kernel
theorem dX1_consider_62 : decode cX1_consider 62 = .ok (.aload_n 0, 1) := by decide +kernel
theorem dX1_consider_63 : decode cX1_consider 63 = .ok (.iload 5, 2) := by decide +kernel
theorem dX1_consider_65 : decode cX1_consider 65 = .ok (.ifCond .eq 7, 3) := by decide +kernel
theorem dX1_consider_68 : decode cX1_consider 68 = .ok (.iload_n 1, 1) := by decide +kernel
theorem dX1_consider_69 : decode cX1_consider 69 = .ok (.goto 11, 3) := by decide +kernel
theorem dX1_consider_72 : decode cX1_consider 72 = .ok (.aload_n 0, 1) := by decide +kernel
theorem dX1_consider_73 : decode cX1_consider 73 = .ok (.getfield 36, 3) := by decide +kernel
theorem dX1_consider_76 : decode cX1_consider 76 = .ok (.iload_n 1, 1) := by decide +kernel
theorem dX1_consider_77 : decode cX1_consider 77 = .ok (.invokestatic 79, 3) := by decide +kernel
theorem dX1_consider_80 : decode cX1_consider 80 = .ok (.putfield 36, 3) := by decide +kernel
theorem dX1_consider_83 : decode cX1_consider 83 = .ok (.iload 5, 2) := by decide +kernel
theorem dX1_consider_85 : decode cX1_consider 85 = .ok (.ifCond .ne 27, 3) := by decide +kernel
theorem dX1_consider_88 : decode cX1_consider 88 = .ok (.iload_n 1, 1) := by decide +kernel
theorem dX1_consider_89 : decode cX1_consider 89 = .ok (.aload_n 0, 1) := by decide +kernel
theorem dX1_consider_90 : decode cX1_consider 90 = .ok (.getfield 24, 3) := by decide +kernel
theorem dX1_consider_93 : decode cX1_consider 93 = .ok (.if_icmp .lt 19, 3) := by decide +kernel
theorem dX1_consider_96 : decode cX1_consider 96 = .ok (.iload_n 1, 1) := by decide +kernel
theorem dX1_consider_97 : decode cX1_consider 97 = .ok (.aload_n 0, 1) := by decide +kernel
theorem dX1_consider_98 : decode cX1_consider 98 = .ok (.getfield 24, 3) := by decide +kernel
theorem dX1_consider_101 : decode cX1_consider 101 = .ok (.if_icmp .ne 27, 3) := by decide +kernel
theorem dX1_consider_104 : decode cX1_consider 104 = .ok (.iload_n 2, 1) := by decide +kernel
theorem dX1_consider_105 : decode cX1_consider 105 = .ok (.aload_n 0, 1) := by decide +kernel
theorem dX1_consider_106 : decode cX1_consider 106 = .ok (.getfield 27, 3) := by decide +kernel
theorem dX1_consider_109 : decode cX1_consider 109 = .ok (.if_icmp .ge 19, 3) := by decide +kernel
theorem dX1_consider_112 : decode cX1_consider 112 = .ok (.aload_n 0, 1) := by decide +kernel
theorem dX1_consider_113 : decode cX1_consider 113 = .ok (.iload_n 1, 1) := by decide +kernel
theorem dX1_consider_114 : decode cX1_consider 114 = .ok (.putfield 24, 3) := by decide +kernel
theorem dX1_consider_117 : decode cX1_consider 117 = .ok (.aload_n 0, 1) := by decide +kernel
theorem dX1_consider_118 : decode cX1_consider 118 = .ok (.iload_n 2, 1) := by decide +kernel
theorem dX1_consider_119 : decode cX1_consider 119 = .ok (.putfield 27, 3) := by decide +kernel
theorem dX1_consider_122 : decode cX1_consider 122 = .ok (.aload_n 0, 1) := by decide +kernel
theorem dX1_consider_123 : decode cX1_consider 123 = .ok (.iload 4, 2) := by decide +kernel
theorem dX1_consider_125 : decode cX1_consider 125 = .ok (.putfield 30, 3) := by decide +kernel
theorem dX1_consider_128 : decode cX1_consider 128 = .ok (.return_, 1) := by decide +kernel
theorem dX1_distanceAt_0 : decode cX1_distanceAt 0 = .ok (.iload 4, 2) := by decide +kernel
theorem dX1_distanceAt_2 : decode cX1_distanceAt 2 = .ok (.ifCond .eq 8, 3) := by decide +kernel
theorem dX1_distanceAt_5 : decode cX1_distanceAt 5 = .ok (.iload 5, 2) := by decide +kernel
theorem dX1_distanceAt_7 : decode cX1_distanceAt 7 = .ok (.ifCond .ne 9, 3) := by decide +kernel
theorem dX1_distanceAt_10 : decode cX1_distanceAt 10 = .ok (.iload 4, 2) := by decide +kernel
theorem dX1_distanceAt_12 : decode cX1_distanceAt 12 = .ok (.iload 5, 2) := by decide +kernel
theorem dX1_distanceAt_14 : decode cX1_distanceAt 14 = .ok (.iadd, 1) := by decide +kernel
theorem dX1_distanceAt_15 : decode cX1_distanceAt 15 = .ok (.ireturn, 1) := by decide +kernel
theorem dX1_distanceAt_16 : decode cX1_distanceAt 16 = .ok (.aload_n 0, 1) := by decide +kernel
theorem dX1_distanceAt_17 : decode cX1_distanceAt 17 = .ok (.getfield 11, 3) := by decide +kernel
theorem dX1_distanceAt_20 : decode cX1_distanceAt 20 = .ok (.iload 4, 2) := by decide +kernel
theorem dX1_distanceAt_22 : decode cX1_distanceAt 22 = .ok (.iconst 1, 1) := by decide +kernel
theorem dX1_distanceAt_23 : decode cX1_distanceAt 23 = .ok (.isub, 1) := by decide +kernel
theorem dX1_distanceAt_24 : decode cX1_distanceAt 24 = .ok (.aaload, 1) := by decide +kernel
theorem dX1_distanceAt_25 : decode cX1_distanceAt 25 = .ok (.iload 5, 2) := by decide +kernel
theorem dX1_distanceAt_27 : decode cX1_distanceAt 27 = .ok (.iconst 1, 1) := by decide +kernel
theorem dX1_distanceAt_28 : decode cX1_distanceAt 28 = .ok (.isub, 1) := by decide +kernel
theorem dX1_distanceAt_29 : decode cX1_distanceAt 29 = .ok (.iaload, 1) := by decide +kernel
theorem dX1_distanceAt_30 : decode cX1_distanceAt 30 = .ok (.aload_n 1, 1) := by decide +kernel
theorem dX1_distanceAt_31 : decode cX1_distanceAt 31 = .ok (.aload_n 2, 1) := by decide +kernel
theorem dX1_distanceAt_32 : decode cX1_distanceAt 32 = .ok (.iload_n 3, 1) := by decide +kernel
theorem dX1_distanceAt_33 : decode cX1_distanceAt 33 = .ok (.iload 4, 2) := by decide +kernel
theorem dX1_distanceAt_35 : decode cX1_distanceAt 35 = .ok (.iload 5, 2) := by decide +kernel
theorem dX1_distanceAt_37 : decode cX1_distanceAt 37 = .ok (.invokestatic 100, 3) := by decide +kernel
theorem dX1_distanceAt_40 : decode cX1_distanceAt 40 = .ok (.iadd, 1) := by decide +kernel
theorem dX1_distanceAt_41 : decode cX1_distanceAt 41 = .ok (.istore 6, 2) := by decide +kernel
theorem dX1_distanceAt_43 : decode cX1_distanceAt 43 = .ok (.iload 6, 2) := by decide +kernel
theorem dX1_distanceAt_45 : decode cX1_distanceAt 45 = .ok (.aload_n 0, 1) := by decide +kernel
theorem dX1_distanceAt_46 : decode cX1_distanceAt 46 = .ok (.getfield 11, 3) := by decide +kernel
theorem dX1_distanceAt_49 : decode cX1_distanceAt 49 = .ok (.iload 4, 2) := by decide +kernel
theorem dX1_distanceAt_51 : decode cX1_distanceAt 51 = .ok (.iconst 1, 1) := by decide +kernel
theorem dX1_distanceAt_52 : decode cX1_distanceAt 52 = .ok (.isub, 1) := by decide +kernel
theorem dX1_distanceAt_53 : decode cX1_distanceAt 53 = .ok (.aaload, 1) := by decide +kernel
theorem dX1_distanceAt_54 : decode cX1_distanceAt 54 = .ok (.iload 5, 2) := by decide +kernel
theorem dX1_distanceAt_56 : decode cX1_distanceAt 56 = .ok (.iaload, 1) := by decide +kernel
theorem dX1_distanceAt_57 : decode cX1_distanceAt 57 = .ok (.aload_n 0, 1) := by decide +kernel
theorem dX1_distanceAt_58 : decode cX1_distanceAt 58 = .ok (.getfield 11, 3) := by decide +kernel
theorem dX1_distanceAt_61 : decode cX1_distanceAt 61 = .ok (.iload 4, 2) := by decide +kernel
theorem dX1_distanceAt_63 : decode cX1_distanceAt 63 = .ok (.aaload, 1) := by decide +kernel
theorem dX1_distanceAt_64 : decode cX1_distanceAt 64 = .ok (.iload 5, 2) := by decide +kernel
theorem dX1_distanceAt_66 : decode cX1_distanceAt 66 = .ok (.iconst 1, 1) := by decide +kernel
theorem dX1_distanceAt_67 : decode cX1_distanceAt 67 = .ok (.isub, 1) := by decide +kernel
theorem dX1_distanceAt_68 : decode cX1_distanceAt 68 = .ok (.iaload, 1) := by decide +kernel
theorem dX1_distanceAt_69 : decode cX1_distanceAt 69 = .ok (.invokestatic 85, 3) := by decide +kernel
theorem dX1_distanceAt_72 : decode cX1_distanceAt 72 = .ok (.iconst 1, 1) := by decide +kernel
theorem dX1_distanceAt_73 : decode cX1_distanceAt 73 = .ok (.iadd, 1) := by decide +kernel
theorem dX1_distanceAt_74 : decode cX1_distanceAt 74 = .ok (.invokestatic 85, 3) := by decide +kernel
theorem dX1_distanceAt_77 : decode cX1_distanceAt 77 = .ok (.ireturn, 1) := by decide +kernel
theorem dX1_fill_0 : decode cX1_fill 0 = .ok (.iconst 0, 1) := by decide +kernel
theorem dX1_fill_1 : decode cX1_fill 1 = .ok (.istore 4, 2) := by decide +kernel
theorem dX1_fill_3 : decode cX1_fill 3 = .ok (.iload 4, 2) := by decide +kernel
theorem dX1_fill_5 : decode cX1_fill 5 = .ok (.aload_n 1, 1) := by decide +kernel
theorem dX1_fill_6 : decode cX1_fill 6 = .ok (.getfield 76, 3) := by decide +kernel
theorem dX1_fill_9 : decode cX1_fill 9 = .ok (.if_icmp .gt 27, 3) := by decide +kernel
theorem dX1_fill_12 : decode cX1_fill 12 = .ok (.aload_n 0, 1) := by decide +kernel
theorem dX1_fill_13 : decode cX1_fill 13 = .ok (.aload_n 1, 1) := by decide +kernel
theorem dX1_fill_14 : decode cX1_fill 14 = .ok (.aload_n 2, 1) := by decide +kernel
theorem dX1_fill_15 : decode cX1_fill 15 = .ok (.iload_n 3, 1) := by decide +kernel
theorem dX1_fill_16 : decode cX1_fill 16 = .ok (.iload 4, 2) := by decide +kernel
theorem dX1_fill_18 : decode cX1_fill 18 = .ok (.invokevirtual 92, 3) := by decide +kernel
theorem dX1_fill_21 : decode cX1_fill 21 = .ok (.aload_n 0, 1) := by decide +kernel
theorem dX1_fill_22 : decode cX1_fill 22 = .ok (.getfield 16, 3) := by decide +kernel
theorem dX1_fill_25 : decode cX1_fill 25 = .ok (.if_icmp .le 5, 3) := by decide +kernel
theorem dX1_fill_28 : decode cX1_fill 28 = .ok (.iconst 0, 1) := by decide +kernel
theorem dX1_fill_29 : decode cX1_fill 29 = .ok (.ireturn, 1) := by decide +kernel
theorem dX1_fill_30 : decode cX1_fill 30 = .ok (.iinc 4 1, 3) := by decide +kernel
theorem dX1_fill_33 : decode cX1_fill 33 = .ok (.goto (-30), 3) := by decide +kernel
theorem dX1_fill_36 : decode cX1_fill 36 = .ok (.iconst 1, 1) := by decide +kernel
theorem dX1_fill_37 : decode cX1_fill 37 = .ok (.ireturn, 1) := by decide +kernel
theorem dX1_fillRow_0 : decode cX1_fillRow 0 = .ok (.aload_n 2, 1) := by decide +kernel
theorem dX1_fillRow_1 : decode cX1_fillRow 1 = .ok (.getfield 67, 3) := by decide +kernel
theorem dX1_fillRow_4 : decode cX1_fillRow 4 = .ok (.iload_n 3, 1) := by decide +kernel
theorem dX1_fillRow_5 : decode cX1_fillRow 5 = .ok (.isub, 1) := by decide +kernel
theorem dX1_fillRow_6 : decode cX1_fillRow 6 = .ok (.aload_n 1, 1) := by decide +kernel
theorem dX1_fillRow_7 : decode cX1_fillRow 7 = .ok (.getfield 76, 3) := by decide +kernel
theorem dX1_fillRow_10 : decode cX1_fillRow 10 = .ok (.aload_n 0, 1) := by decide +kernel
theorem dX1_fillRow_11 : decode cX1_fillRow 11 = .ok (.getfield 16, 3) := by decide +kernel
theorem dX1_fillRow_14 : decode cX1_fillRow 14 = .ok (.iadd, 1) := by decide +kernel
theorem dX1_fillRow_15 : decode cX1_fillRow 15 = .ok (.invokestatic 85, 3) := by decide +kernel
theorem dX1_fillRow_18 : decode cX1_fillRow 18 = .ok (.istore 5, 2) := by decide +kernel
theorem dX1_fillRow_20 : decode cX1_fillRow 20 = .ok (.iconst 0, 1) := by decide +kernel
theorem dX1_fillRow_21 : decode cX1_fillRow 21 = .ok (.iload 4, 2) := by decide +kernel
theorem dX1_fillRow_23 : decode cX1_fillRow 23 = .ok (.aload_n 0, 1) := by decide +kernel
theorem dX1_fillRow_24 : decode cX1_fillRow 24 = .ok (.getfield 16, 3) := by decide +kernel
theorem dX1_fillRow_27 : decode cX1_fillRow 27 = .ok (.isub, 1) := by decide +kernel
theorem dX1_fillRow_28 : decode cX1_fillRow 28 = .ok (.invokestatic 79, 3) := by decide +kernel
theorem dX1_fillRow_31 : decode cX1_fillRow 31 = .ok (.istore 6, 2) := by decide +kernel
theorem dX1_fillRow_33 : decode cX1_fillRow 33 = .ok (.iload 5, 2) := by decide +kernel
theorem dX1_fillRow_35 : decode cX1_fillRow 35 = .ok (.iload 4, 2) := by decide +kernel
theorem dX1_fillRow_37 : decode cX1_fillRow 37 = .ok (.aload_n 0, 1) := by decide +kernel
theorem dX1_fillRow_38 : decode cX1_fillRow 38 = .ok (.getfield 16, 3) := by decide +kernel
theorem dX1_fillRow_41 : decode cX1_fillRow 41 = .ok (.iadd, 1) := by decide +kernel
theorem dX1_fillRow_42 : decode cX1_fillRow 42 = .ok (.invokestatic 85, 3) := by decide +kernel
theorem dX1_fillRow_45 : decode cX1_fillRow 45 = .ok (.istore 7, 2) := by decide +kernel
theorem dX1_fillRow_47 : decode cX1_fillRow 47 = .ok (.sipush 1000, 3) := by decide +kernel
theorem dX1_fillRow_50 : decode cX1_fillRow 50 = .ok (.istore 8, 2) := by decide +kernel
theorem dX1_fillRow_52 : decode cX1_fillRow 52 = .ok (.iload 6, 2) := by decide +kernel
theorem dX1_fillRow_54 : decode cX1_fillRow 54 = .ok (.ifCond .le 18, 3) := by decide +kernel
theorem dX1_fillRow_57 : decode cX1_fillRow 57 = .ok (.aload_n 0, 1) := by decide +kernel
theorem dX1_fillRow_58 : decode cX1_fillRow 58 = .ok (.getfield 11, 3) := by decide +kernel
theorem dX1_fillRow_61 : decode cX1_fillRow 61 = .ok (.iload 4, 2) := by decide +kernel
theorem dX1_fillRow_63 : decode cX1_fillRow 63 = .ok (.aaload, 1) := by decide +kernel
theorem dX1_fillRow_64 : decode cX1_fillRow 64 = .ok (.iload 6, 2) := by decide +kernel
theorem dX1_fillRow_66 : decode cX1_fillRow 66 = .ok (.iconst 1, 1) := by decide +kernel
theorem dX1_fillRow_67 : decode cX1_fillRow 67 = .ok (.isub, 1) := by decide +kernel
theorem dX1_fillRow_68 : decode cX1_fillRow 68 = .ok (.sipush 1000, 3) := by decide +kernel
theorem dX1_fillRow_71 : decode cX1_fillRow 71 = .ok (.iastore, 1) := by decide +kernel
theorem dX1_fillRow_72 : decode cX1_fillRow 72 = .ok (.iload 6, 2) := by decide +kernel
theorem dX1_fillRow_74 : decode cX1_fillRow 74 = .ok (.istore 9, 2) := by decide +kernel
theorem dX1_fillRow_76 : decode cX1_fillRow 76 = .ok (.iload 9, 2) := by decide +kernel
theorem dX1_fillRow_78 : decode cX1_fillRow 78 = .ok (.iload 7, 2) := by decide +kernel
theorem dX1_fillRow_80 : decode cX1_fillRow 80 = .ok (.if_icmp .gt 47, 3) := by decide +kernel
theorem dX1_fillRow_83 : decode cX1_fillRow 83 = .ok (.aload_n 0, 1) := by decide +kernel
theorem dX1_fillRow_84 : decode cX1_fillRow 84 = .ok (.getfield 11, 3) := by decide +kernel
theorem dX1_fillRow_87 : decode cX1_fillRow 87 = .ok (.iload 4, 2) := by decide +kernel
theorem dX1_fillRow_89 : decode cX1_fillRow 89 = .ok (.aaload, 1) := by decide +kernel
theorem dX1_fillRow_90 : decode cX1_fillRow 90 = .ok (.iload 9, 2) := by decide +kernel
theorem dX1_fillRow_92 : decode cX1_fillRow 92 = .ok (.aload_n 0, 1) := by decide +kernel
theorem dX1_fillRow_93 : decode cX1_fillRow 93 = .ok (.aload_n 1, 1) := by decide +kernel
theorem dX1_fillRow_94 : decode cX1_fillRow 94 = .ok (.aload_n 2, 1) := by decide +kernel
theorem dX1_fillRow_95 : decode cX1_fillRow 95 = .ok (.iload_n 3, 1) := by decide +kernel
theorem dX1_fillRow_96 : decode cX1_fillRow 96 = .ok (.iload 4, 2) := by decide +kernel
theorem dX1_fillRow_98 : decode cX1_fillRow 98 = .ok (.iload 9, 2) := by decide +kernel
theorem dX1_fillRow_100 : decode cX1_fillRow 100 = .ok (.invokevirtual 96, 3) := by decide +kernel
theorem dX1_fillRow_103 : decode cX1_fillRow 103 = .ok (.iastore, 1) := by decide +kernel
theorem dX1_fillRow_104 : decode cX1_fillRow 104 = .ok (.iload 8, 2) := by decide +kernel
theorem dX1_fillRow_106 : decode cX1_fillRow 106 = .ok (.aload_n 0, 1) := by decide +kernel
theorem dX1_fillRow_107 : decode cX1_fillRow 107 = .ok (.getfield 11, 3) := by decide +kernel
theorem dX1_fillRow_110 : decode cX1_fillRow 110 = .ok (.iload 4, 2) := by decide +kernel
theorem dX1_fillRow_112 : decode cX1_fillRow 112 = .ok (.aaload, 1) := by decide +kernel
theorem dX1_fillRow_113 : decode cX1_fillRow 113 = .ok (.iload 9, 2) := by decide +kernel
theorem dX1_fillRow_115 : decode cX1_fillRow 115 = .ok (.iaload, 1) := by decide +kernel
theorem dX1_fillRow_116 : decode cX1_fillRow 116 = .ok (.invokestatic 85, 3) := by decide +kernel
theorem dX1_fillRow_119 : decode cX1_fillRow 119 = .ok (.istore 8, 2) := by decide +kernel
theorem dX1_fillRow_121 : decode cX1_fillRow 121 = .ok (.iinc 9 1, 3) := by decide +kernel
theorem dX1_fillRow_124 : decode cX1_fillRow 124 = .ok (.goto (-48), 3) := by decide +kernel
theorem dX1_fillRow_127 : decode cX1_fillRow 127 = .ok (.iload 7, 2) := by decide +kernel
theorem dX1_fillRow_129 : decode cX1_fillRow 129 = .ok (.iload 5, 2) := by decide +kernel
theorem dX1_fillRow_131 : decode cX1_fillRow 131 = .ok (.if_icmp .ge 18, 3) := by decide +kernel
theorem dX1_fillRow_134 : decode cX1_fillRow 134 = .ok (.aload_n 0, 1) := by decide +kernel
theorem dX1_fillRow_135 : decode cX1_fillRow 135 = .ok (.getfield 11, 3) := by decide +kernel
theorem dX1_fillRow_138 : decode cX1_fillRow 138 = .ok (.iload 4, 2) := by decide +kernel
theorem dX1_fillRow_140 : decode cX1_fillRow 140 = .ok (.aaload, 1) := by decide +kernel
theorem dX1_fillRow_141 : decode cX1_fillRow 141 = .ok (.iload 7, 2) := by decide +kernel
theorem dX1_fillRow_143 : decode cX1_fillRow 143 = .ok (.iconst 1, 1) := by decide +kernel
theorem dX1_fillRow_144 : decode cX1_fillRow 144 = .ok (.iadd, 1) := by decide +kernel
theorem dX1_fillRow_145 : decode cX1_fillRow 145 = .ok (.sipush 1000, 3) := by decide +kernel
theorem dX1_fillRow_148 : decode cX1_fillRow 148 = .ok (.iastore, 1) := by decide +kernel
theorem dX1_fillRow_149 : decode cX1_fillRow 149 = .ok (.iload 8, 2) := by decide +kernel
theorem dX1_fillRow_151 : decode cX1_fillRow 151 = .ok (.ireturn, 1) := by decide +kernel
theorem dX1_search_0 : decode cX1_search 0 = .ok (.iconst 0, 1) := by decide +kernel
theorem dX1_search_1 : decode cX1_search 1 = .ok (.istore 4, 2) := by decide +kernel
theorem dX1_search_3 : decode cX1_search 3 = .ok (.iload 4, 2) := by decide +kernel
theorem dX1_search_5 : decode cX1_search 5 = .ok (.aload_n 2, 1) := by decide +kernel
theorem dX1_search_6 : decode cX1_search 6 = .ok (.getfield 67, 3) := by decide +kernel
theorem dX1_search_9 : decode cX1_search 9 = .ok (.if_icmp .ge 97, 3) := by decide +kernel
theorem dX1_search_12 : decode cX1_search 12 = .ok (.aload_n 0, 1) := by decide +kernel
theorem dX1_search_13 : decode cX1_search 13 = .ok (.aload_n 1, 1) := by decide +kernel
theorem dX1_search_14 : decode cX1_search 14 = .ok (.aload_n 2, 1) := by decide +kernel
theorem dX1_search_15 : decode cX1_search 15 = .ok (.iload 4, 2) := by decide +kernel
theorem dX1_search_17 : decode cX1_search 17 = .ok (.invokevirtual 72, 3) := by decide +kernel
theorem dX1_search_20 : decode cX1_search 20 = .ok (.ifCond .eq 80, 3) := by decide +kernel
theorem dX1_search_23 : decode cX1_search 23 = .ok (.iconst 1, 1) := by decide +kernel
theorem dX1_search_24 : decode cX1_search 24 = .ok (.aload_n 1, 1) := by decide +kernel
theorem dX1_search_25 : decode cX1_search 25 = .ok (.getfield 76, 3) := by decide +kernel
theorem dX1_search_28 : decode cX1_search 28 = .ok (.aload_n 0, 1) := by decide +kernel
theorem dX1_search_29 : decode cX1_search 29 = .ok (.getfield 16, 3) := by decide +kernel
theorem dX1_search_32 : decode cX1_search 32 = .ok (.isub, 1) := by decide +kernel
theorem dX1_search_33 : decode cX1_search 33 = .ok (.invokestatic 79, 3) := by decide +kernel
theorem dX1_search_36 : decode cX1_search 36 = .ok (.istore 5, 2) := by decide +kernel
theorem dX1_search_38 : decode cX1_search 38 = .ok (.aload_n 2, 1) := by decide +kernel
theorem dX1_search_39 : decode cX1_search 39 = .ok (.getfield 67, 3) := by decide +kernel
theorem dX1_search_42 : decode cX1_search 42 = .ok (.iload 4, 2) := by decide +kernel
theorem dX1_search_44 : decode cX1_search 44 = .ok (.isub, 1) := by decide +kernel
theorem dX1_search_45 : decode cX1_search 45 = .ok (.aload_n 1, 1) := by decide +kernel
theorem dX1_search_46 : decode cX1_search 46 = .ok (.getfield 76, 3) := by decide +kernel
theorem dX1_search_49 : decode cX1_search 49 = .ok (.aload_n 0, 1) := by decide +kernel
theorem dX1_search_50 : decode cX1_search 50 = .ok (.getfield 16, 3) := by decide +kernel
theorem dX1_search_53 : decode cX1_search 53 = .ok (.iadd, 1) := by decide +kernel
theorem dX1_search_54 : decode cX1_search 54 = .ok (.invokestatic 85, 3) := by decide +kernel
theorem dX1_search_57 : decode cX1_search 57 = .ok (.istore 6, 2) := by decide +kernel
theorem dX1_search_59 : decode cX1_search 59 = .ok (.iload 5, 2) := by decide +kernel
theorem dX1_search_61 : decode cX1_search 61 = .ok (.istore 7, 2) := by decide +kernel
theorem dX1_search_63 : decode cX1_search 63 = .ok (.iload 7, 2) := by decide +kernel
theorem dX1_search_65 : decode cX1_search 65 = .ok (.iload 6, 2) := by decide +kernel
theorem dX1_search_67 : decode cX1_search 67 = .ok (.if_icmp .gt 33, 3) := by decide +kernel
theorem dX1_search_70 : decode cX1_search 70 = .ok (.aload_n 0, 1) := by decide +kernel
theorem dX1_search_71 : decode cX1_search 71 = .ok (.iload 4, 2) := by decide +kernel
theorem dX1_search_73 : decode cX1_search 73 = .ok (.iload 4, 2) := by decide +kernel
theorem dX1_search_75 : decode cX1_search 75 = .ok (.iload 7, 2) := by decide +kernel
theorem dX1_search_77 : decode cX1_search 77 = .ok (.iadd, 1) := by decide +kernel
theorem dX1_search_78 : decode cX1_search 78 = .ok (.aload_n 0, 1) := by decide +kernel
theorem dX1_search_79 : decode cX1_search 79 = .ok (.getfield 11, 3) := by decide +kernel
theorem dX1_search_82 : decode cX1_search 82 = .ok (.aload_n 1, 1) := by decide +kernel
theorem dX1_search_83 : decode cX1_search 83 = .ok (.getfield 76, 3) := by decide +kernel
theorem dX1_search_86 : decode cX1_search 86 = .ok (.aaload, 1) := by decide +kernel
theorem dX1_search_87 : decode cX1_search 87 = .ok (.iload 7, 2) := by decide +kernel
theorem dX1_search_89 : decode cX1_search 89 = .ok (.iaload, 1) := by decide +kernel
theorem dX1_search_90 : decode cX1_search 90 = .ok (.iload_n 3, 1) := by decide +kernel
theorem dX1_search_91 : decode cX1_search 91 = .ok (.invokevirtual 88, 3) := by decide +kernel
theorem dX1_search_94 : decode cX1_search 94 = .ok (.iinc 7 1, 3) := by decide +kernel
theorem dX1_search_97 : decode cX1_search 97 = .ok (.goto (-34), 3) := by decide +kernel
theorem dX1_search_100 : decode cX1_search 100 = .ok (.iinc 4 1, 3) := by decide +kernel
theorem dX1_search_103 : decode cX1_search 103 = .ok (.goto (-100), 3) := by decide +kernel
theorem dX1_search_106 : decode cX1_search 106 = .ok (.return_, 1) := by decide +kernel
theorem dX1_settle_0 : decode cX1_settle 0 = .ok (.aload_n 0, 1) := by decide +kernel
theorem dX1_settle_1 : decode cX1_settle 1 = .ok (.iload_n 3, 1) := by decide +kernel
theorem dX1_settle_2 : decode cX1_settle 2 = .ok (.putfield 16, 3) := by decide +kernel
theorem dX1_settle_5 : decode cX1_settle 5 = .ok (.aload_n 0, 1) := by decide +kernel
theorem dX1_settle_6 : decode cX1_settle 6 = .ok (.iconst 0, 1) := by decide +kernel
theorem dX1_settle_7 : decode cX1_settle 7 = .ok (.putfield 20, 3) := by decide +kernel
theorem dX1_settle_10 : decode cX1_settle 10 = .ok (.aload_n 0, 1) := by decide +kernel
theorem dX1_settle_11 : decode cX1_settle 11 = .ok (.aload_n 1, 1) := by decide +kernel
theorem dX1_settle_12 : decode cX1_settle 12 = .ok (.aload_n 2, 1) := by decide +kernel
theorem dX1_settle_13 : decode cX1_settle 13 = .ok (.iconst 0, 1) := by decide +kernel
theorem dX1_settle_14 : decode cX1_settle 14 = .ok (.invokevirtual 39, 3) := by decide +kernel
theorem dX1_settle_17 : decode cX1_settle 17 = .ok (.aload_n 1, 1) := by decide +kernel
theorem dX1_settle_18 : decode cX1_settle 18 = .ok (.invokevirtual 43, 3) := by decide +kernel
theorem dX1_settle_21 : decode cX1_settle 21 = .ok (.aload_n 0, 1) := by decide +kernel
theorem dX1_settle_22 : decode cX1_settle 22 = .ok (.aload_n 1, 1) := by decide +kernel
theorem dX1_settle_23 : decode cX1_settle 23 = .ok (.aload_n 2, 1) := by decide +kernel
theorem dX1_settle_24 : decode cX1_settle 24 = .ok (.iconst 1, 1) := by decide +kernel
theorem dX1_settle_25 : decode cX1_settle 25 = .ok (.invokevirtual 39, 3) := by decide +kernel
theorem dX1_settle_28 : decode cX1_settle 28 = .ok (.aload_n 1, 1) := by decide +kernel
theorem dX1_settle_29 : decode cX1_settle 29 = .ok (.aload_n 0, 1) := by decide +kernel
theorem dX1_settle_30 : decode cX1_settle 30 = .ok (.invokevirtual 48, 3) := by decide +kernel
theorem dX1_settle_33 : decode cX1_settle 33 = .ok (.putfield 52, 3) := by decide +kernel
theorem dX1_settle_36 : decode cX1_settle 36 = .ok (.aload_n 1, 1) := by decide +kernel
theorem dX1_settle_37 : decode cX1_settle 37 = .ok (.iconst 0, 1) := by decide +kernel
theorem dX1_settle_38 : decode cX1_settle 38 = .ok (.putfield 54, 3) := by decide +kernel
theorem dX1_settle_41 : decode cX1_settle 41 = .ok (.aload_n 1, 1) := by decide +kernel
theorem dX1_settle_42 : decode cX1_settle 42 = .ok (.getfield 52, 3) := by decide +kernel
theorem dX1_settle_45 : decode cX1_settle 45 = .ok (.ifCond .eq 4, 3) := by decide +kernel
theorem dX1_settle_48 : decode cX1_settle 48 = .ok (.return_, 1) := by decide +kernel
theorem dX1_settle_49 : decode cX1_settle 49 = .ok (.aload_n 0, 1) := by decide +kernel
theorem dX1_settle_50 : decode cX1_settle 50 = .ok (.getfield 30, 3) := by decide +kernel
theorem dX1_settle_53 : decode cX1_settle 53 = .ok (.ifCond .ne 7, 3) := by decide +kernel
theorem dX1_settle_56 : decode cX1_settle 56 = .ok (.aload_n 1, 1) := by decide +kernel
theorem dX1_settle_57 : decode cX1_settle 57 = .ok (.invokevirtual 43, 3) := by decide +kernel
theorem dX1_settle_60 : decode cX1_settle 60 = .ok (.aload_n 1, 1) := by decide +kernel
theorem dX1_settle_61 : decode cX1_settle 61 = .ok (.aload_n 0, 1) := by decide +kernel
theorem dX1_settle_62 : decode cX1_settle 62 = .ok (.getfield 24, 3) := by decide +kernel
theorem dX1_settle_65 : decode cX1_settle 65 = .ok (.putfield 57, 3) := by decide +kernel
theorem dX1_settle_68 : decode cX1_settle 68 = .ok (.aload_n 1, 1) := by decide +kernel
theorem dX1_settle_69 : decode cX1_settle 69 = .ok (.aload_n 0, 1) := by decide +kernel
theorem dX1_settle_70 : decode cX1_settle 70 = .ok (.getfield 27, 3) := by decide +kernel
theorem dX1_settle_73 : decode cX1_settle 73 = .ok (.putfield 58, 3) := by decide +kernel
theorem dX1_settle_76 : decode cX1_settle 76 = .ok (.aload_n 1, 1) := by decide +kernel
theorem dX1_settle_77 : decode cX1_settle 77 = .ok (.aload_n 0, 1) := by decide +kernel
theorem dX1_settle_78 : decode cX1_settle 78 = .ok (.getfield 16, 3) := by decide +kernel
theorem dX1_settle_81 : decode cX1_settle 81 = .ok (.putfield 59, 3) := by decide +kernel
theorem dX1_settle_84 : decode cX1_settle 84 = .ok (.aload_n 1, 1) := by decide +kernel
theorem dX1_settle_85 : decode cX1_settle 85 = .ok (.aload_n 0, 1) := by decide +kernel
theorem dX1_settle_86 : decode cX1_settle 86 = .ok (.getfield 30, 3) := by decide +kernel
theorem dX1_settle_89 : decode cX1_settle 89 = .ok (.putfield 62, 3) := by decide +kernel
theorem dX1_settle_92 : decode cX1_settle 92 = .ok (.aload_n 0, 1) := by decide +kernel
theorem dX1_settle_93 : decode cX1_settle 93 = .ok (.aload_n 1, 1) := by decide +kernel
theorem dX1_settle_94 : decode cX1_settle 94 = .ok (.aload_n 2, 1) := by decide +kernel
theorem dX1_settle_95 : decode cX1_settle 95 = .ok (.invokevirtual 63, 3) := by decide +kernel
theorem dX1_settle_98 : decode cX1_settle 98 = .ok (.return_, 1) := by decide +kernel
theorem dX1_state_0 : decode cX1_state 0 = .ok (.aload_n 0, 1) := by decide +kernel
theorem dX1_state_1 : decode cX1_state 1 = .ok (.getfield 20, 3) := by decide +kernel
theorem dX1_state_4 : decode cX1_state 4 = .ok (.ifCond .ne 5, 3) := by decide +kernel
theorem dX1_state_7 : decode cX1_state 7 = .ok (.iconst 1, 1) := by decide +kernel
theorem dX1_state_8 : decode cX1_state 8 = .ok (.ireturn, 1) := by decide +kernel
theorem dX1_state_9 : decode cX1_state 9 = .ok (.aload_n 0, 1) := by decide +kernel
theorem dX1_state_10 : decode cX1_state 10 = .ok (.getfield 33, 3) := by decide +kernel
theorem dX1_state_13 : decode cX1_state 13 = .ok (.aload_n 0, 1) := by decide +kernel
theorem dX1_state_14 : decode cX1_state 14 = .ok (.getfield 36, 3) := by decide +kernel
theorem dX1_state_17 : decode cX1_state 17 = .ok (.if_icmp .gt 7, 3) := by decide +kernel
theorem dX1_state_20 : decode cX1_state 20 = .ok (.iconst 2, 1) := by decide +kernel
theorem dX1_state_21 : decode cX1_state 21 = .ok (.goto 4, 3) := by decide +kernel
theorem dX1_state_24 : decode cX1_state 24 = .ok (.iconst 0, 1) := by decide +kernel
theorem dX1_state_25 : decode cX1_state 25 = .ok (.ireturn, 1) := by decide +kernel

theorem dX10_errorOfReads_0 : decode cX10_errorOfReads 0 = .ok (.iconst 0, 1) := by decide +kernel
theorem dX10_errorOfReads_1 : decode cX10_errorOfReads 1 = .ok (.istore_n 1, 1) := by decide +kernel
theorem dX10_errorOfReads_2 : decode cX10_errorOfReads 2 = .ok (.iconst 0, 1) := by decide +kernel
theorem dX10_errorOfReads_3 : decode cX10_errorOfReads 3 = .ok (.istore_n 2, 1) := by decide +kernel
theorem dX10_errorOfReads_4 : decode cX10_errorOfReads 4 = .ok (.iload_n 1, 1) := by decide +kernel
theorem dX10_errorOfReads_5 : decode cX10_errorOfReads 5 = .ok (.aload_n 0, 1) := by decide +kernel
theorem dX10_errorOfReads_6 : decode cX10_errorOfReads 6 = .ok (.getfield 13, 3) := by decide +kernel
theorem dX10_errorOfReads_9 : decode cX10_errorOfReads 9 = .ok (.iconst 1, 1) := by decide +kernel
theorem dX10_errorOfReads_10 : decode cX10_errorOfReads 10 = .ok (.iaload, 1) := by decide +kernel
theorem dX10_errorOfReads_11 : decode cX10_errorOfReads 11 = .ok (.if_icmp .ge 182, 3) := by decide +kernel
theorem dX10_errorOfReads_14 : decode cX10_errorOfReads 14 = .ok (.iload_n 2, 1) := by decide +kernel
theorem dX10_errorOfReads_15 : decode cX10_errorOfReads 15 = .ok (.bipush 8, 2) := by decide +kernel
theorem dX10_errorOfReads_17 : decode cX10_errorOfReads 17 = .ok (.if_icmp .eq 14, 3) := by decide +kernel
theorem dX10_errorOfReads_20 : decode cX10_errorOfReads 20 = .ok (.aload_n 0, 1) := by decide +kernel
theorem dX10_errorOfReads_21 : decode cX10_errorOfReads 21 = .ok (.iconst 1, 1) := by decide +kernel
theorem dX10_errorOfReads_22 : decode cX10_errorOfReads 22 = .ok (.iload_n 1, 1) := by decide +kernel
theorem dX10_errorOfReads_23 : decode cX10_errorOfReads 23 = .ok (.invokevirtual 93, 3) := by decide +kernel
theorem dX10_errorOfReads_26 : decode cX10_errorOfReads 26 = .ok (.bipush 64, 2) := by decide +kernel
theorem dX10_errorOfReads_28 : decode cX10_errorOfReads 28 = .ok (.if_icmp .eq 5, 3) := by decide +kernel
theorem dX10_errorOfReads_31 : decode cX10_errorOfReads 31 = .ok (.iload_n 1, 1) := by decide +kernel
theorem dX10_errorOfReads_32 : decode cX10_errorOfReads 32 = .ok (.ireturn, 1) := by decide +kernel
theorem dX10_errorOfReads_33 : decode cX10_errorOfReads 33 = .ok (.aload_n 0, 1) := by decide +kernel
theorem dX10_errorOfReads_34 : decode cX10_errorOfReads 34 = .ok (.iconst 1, 1) := by decide +kernel
theorem dX10_errorOfReads_35 : decode cX10_errorOfReads 35 = .ok (.iload_n 1, 1) := by decide +kernel
theorem dX10_errorOfReads_36 : decode cX10_errorOfReads 36 = .ok (.iconst 1, 1) := by decide +kernel
theorem dX10_errorOfReads_37 : decode cX10_errorOfReads 37 = .ok (.iadd, 1) := by decide +kernel
theorem dX10_errorOfReads_38 : decode cX10_errorOfReads 38 = .ok (.invokevirtual 101, 3) := by decide +kernel
theorem dX10_errorOfReads_41 : decode cX10_errorOfReads 41 = .ok (.istore_n 1, 1) := by decide +kernel
theorem dX10_errorOfReads_42 : decode cX10_errorOfReads 42 = .ok (.iload_n 1, 1) := by decide +kernel
theorem dX10_errorOfReads_43 : decode cX10_errorOfReads 43 = .ok (.ifCond .ge 9, 3) := by decide +kernel
theorem dX10_errorOfReads_46 : decode cX10_errorOfReads 46 = .ok (.iload_n 1, 1) := by decide +kernel
theorem dX10_errorOfReads_47 : decode cX10_errorOfReads 47 = .ok (.sipush 1000, 3) := by decide +kernel
theorem dX10_errorOfReads_50 : decode cX10_errorOfReads 50 = .ok (.iadd, 1) := by decide +kernel
theorem dX10_errorOfReads_51 : decode cX10_errorOfReads 51 = .ok (.ireturn, 1) := by decide +kernel
theorem dX10_errorOfReads_52 : decode cX10_errorOfReads 52 = .ok (.iconst 0, 1) := by decide +kernel
theorem dX10_errorOfReads_53 : decode cX10_errorOfReads 53 = .ok (.istore_n 3, 1) := by decide +kernel
theorem dX10_errorOfReads_54 : decode cX10_errorOfReads 54 = .ok (.iload_n 3, 1) := by decide +kernel
theorem dX10_errorOfReads_55 : decode cX10_errorOfReads 55 = .ok (.bipush 16, 2) := by decide +kernel
theorem dX10_errorOfReads_57 : decode cX10_errorOfReads 57 = .ok (.if_icmp .ge 23, 3) := by decide +kernel
theorem dX10_errorOfReads_60 : decode cX10_errorOfReads 60 = .ok (.aload_n 0, 1) := by decide +kernel
theorem dX10_errorOfReads_61 : decode cX10_errorOfReads 61 = .ok (.iconst 1, 1) := by decide +kernel
theorem dX10_errorOfReads_62 : decode cX10_errorOfReads 62 = .ok (.iload_n 1, 1) := by decide +kernel
theorem dX10_errorOfReads_63 : decode cX10_errorOfReads 63 = .ok (.iload_n 3, 1) := by decide +kernel
theorem dX10_errorOfReads_64 : decode cX10_errorOfReads 64 = .ok (.iadd, 1) := by decide +kernel
theorem dX10_errorOfReads_65 : decode cX10_errorOfReads 65 = .ok (.invokevirtual 93, 3) := by decide +kernel
theorem dX10_errorOfReads_68 : decode cX10_errorOfReads 68 = .ok (.invokestatic 105, 3) := by decide +kernel
theorem dX10_errorOfReads_71 : decode cX10_errorOfReads 71 = .ok (.ifCond .lt 9, 3) := by decide +kernel
theorem dX10_errorOfReads_74 : decode cX10_errorOfReads 74 = .ok (.iinc 3 1, 3) := by decide +kernel
theorem dX10_errorOfReads_77 : decode cX10_errorOfReads 77 = .ok (.goto (-23), 3) := by decide +kernel
theorem dX10_errorOfReads_80 : decode cX10_errorOfReads 80 = .ok (.iload_n 1, 1) := by decide +kernel
theorem dX10_errorOfReads_81 : decode cX10_errorOfReads 81 = .ok (.iload_n 3, 1) := by decide +kernel
theorem dX10_errorOfReads_82 : decode cX10_errorOfReads 82 = .ok (.iadd, 1) := by decide +kernel
theorem dX10_errorOfReads_83 : decode cX10_errorOfReads 83 = .ok (.istore_n 1, 1) := by decide +kernel
theorem dX10_errorOfReads_84 : decode cX10_errorOfReads 84 = .ok (.iload_n 3, 1) := by decide +kernel
theorem dX10_errorOfReads_85 : decode cX10_errorOfReads 85 = .ok (.iconst 4, 1) := by decide +kernel
theorem dX10_errorOfReads_86 : decode cX10_errorOfReads 86 = .ok (.if_icmp .lt 14, 3) := by decide +kernel
theorem dX10_errorOfReads_89 : decode cX10_errorOfReads 89 = .ok (.aload_n 0, 1) := by decide +kernel
theorem dX10_errorOfReads_90 : decode cX10_errorOfReads 90 = .ok (.iconst 1, 1) := by decide +kernel
theorem dX10_errorOfReads_91 : decode cX10_errorOfReads 91 = .ok (.iload_n 1, 1) := by decide +kernel
theorem dX10_errorOfReads_92 : decode cX10_errorOfReads 92 = .ok (.invokevirtual 93, 3) := by decide +kernel
theorem dX10_errorOfReads_95 : decode cX10_errorOfReads 95 = .ok (.bipush 10, 2) := by decide +kernel
theorem dX10_errorOfReads_97 : decode cX10_errorOfReads 97 = .ok (.if_icmp .eq 5, 3) := by decide +kernel
theorem dX10_errorOfReads_100 : decode cX10_errorOfReads 100 = .ok (.iload_n 1, 1) := by decide +kernel
theorem dX10_errorOfReads_101 : decode cX10_errorOfReads 101 = .ok (.ireturn, 1) := by decide +kernel
theorem dX10_errorOfReads_102 : decode cX10_errorOfReads 102 = .ok (.aload_n 0, 1) := by decide +kernel
theorem dX10_errorOfReads_103 : decode cX10_errorOfReads 103 = .ok (.iconst 1, 1) := by decide +kernel
theorem dX10_errorOfReads_104 : decode cX10_errorOfReads 104 = .ok (.iload_n 1, 1) := by decide +kernel
theorem dX10_errorOfReads_105 : decode cX10_errorOfReads 105 = .ok (.iconst 1, 1) := by decide +kernel
theorem dX10_errorOfReads_106 : decode cX10_errorOfReads 106 = .ok (.iadd, 1) := by decide +kernel
theorem dX10_errorOfReads_107 : decode cX10_errorOfReads 107 = .ok (.invokevirtual 93, 3) := by decide +kernel
theorem dX10_errorOfReads_110 : decode cX10_errorOfReads 110 = .ok (.bipush 43, 2) := by decide +kernel
theorem dX10_errorOfReads_112 : decode cX10_errorOfReads 112 = .ok (.if_icmp .eq 7, 3) := by decide +kernel
theorem dX10_errorOfReads_115 : decode cX10_errorOfReads 115 = .ok (.iload_n 1, 1) := by decide +kernel
theorem dX10_errorOfReads_116 : decode cX10_errorOfReads 116 = .ok (.iconst 1, 1) := by decide +kernel
theorem dX10_errorOfReads_117 : decode cX10_errorOfReads 117 = .ok (.iadd, 1) := by decide +kernel
theorem dX10_errorOfReads_118 : decode cX10_errorOfReads 118 = .ok (.ireturn, 1) := by decide +kernel
theorem dX10_errorOfReads_119 : decode cX10_errorOfReads 119 = .ok (.aload_n 0, 1) := by decide +kernel
theorem dX10_errorOfReads_120 : decode cX10_errorOfReads 120 = .ok (.iconst 1, 1) := by decide +kernel
theorem dX10_errorOfReads_121 : decode cX10_errorOfReads 121 = .ok (.iload_n 1, 1) := by decide +kernel
theorem dX10_errorOfReads_122 : decode cX10_errorOfReads 122 = .ok (.iconst 2, 1) := by decide +kernel
theorem dX10_errorOfReads_123 : decode cX10_errorOfReads 123 = .ok (.iadd, 1) := by decide +kernel
theorem dX10_errorOfReads_124 : decode cX10_errorOfReads 124 = .ok (.invokevirtual 93, 3) := by decide +kernel
theorem dX10_errorOfReads_127 : decode cX10_errorOfReads 127 = .ok (.bipush 10, 2) := by decide +kernel
theorem dX10_errorOfReads_129 : decode cX10_errorOfReads 129 = .ok (.if_icmp .eq 7, 3) := by decide +kernel
theorem dX10_errorOfReads_132 : decode cX10_errorOfReads 132 = .ok (.iload_n 1, 1) := by decide +kernel
theorem dX10_errorOfReads_133 : decode cX10_errorOfReads 133 = .ok (.iconst 2, 1) := by decide +kernel
theorem dX10_errorOfReads_134 : decode cX10_errorOfReads 134 = .ok (.iadd, 1) := by decide +kernel
theorem dX10_errorOfReads_135 : decode cX10_errorOfReads 135 = .ok (.ireturn, 1) := by decide +kernel
theorem dX10_errorOfReads_136 : decode cX10_errorOfReads 136 = .ok (.iinc 1 3, 3) := by decide +kernel
theorem dX10_errorOfReads_139 : decode cX10_errorOfReads 139 = .ok (.iconst 0, 1) := by decide +kernel
theorem dX10_errorOfReads_140 : decode cX10_errorOfReads 140 = .ok (.istore 4, 2) := by decide +kernel
theorem dX10_errorOfReads_142 : decode cX10_errorOfReads 142 = .ok (.iload 4, 2) := by decide +kernel
theorem dX10_errorOfReads_144 : decode cX10_errorOfReads 144 = .ok (.iload_n 3, 1) := by decide +kernel
theorem dX10_errorOfReads_145 : decode cX10_errorOfReads 145 = .ok (.if_icmp .ge 26, 3) := by decide +kernel
theorem dX10_errorOfReads_148 : decode cX10_errorOfReads 148 = .ok (.aload_n 0, 1) := by decide +kernel
theorem dX10_errorOfReads_149 : decode cX10_errorOfReads 149 = .ok (.iconst 1, 1) := by decide +kernel
theorem dX10_errorOfReads_150 : decode cX10_errorOfReads 150 = .ok (.iload_n 1, 1) := by decide +kernel
theorem dX10_errorOfReads_151 : decode cX10_errorOfReads 151 = .ok (.invokevirtual 93, 3) := by decide +kernel
theorem dX10_errorOfReads_154 : decode cX10_errorOfReads 154 = .ok (.invokestatic 97, 3) := by decide +kernel
theorem dX10_errorOfReads_157 : decode cX10_errorOfReads 157 = .ok (.ifCond .ne 5, 3) := by decide +kernel
theorem dX10_errorOfReads_160 : decode cX10_errorOfReads 160 = .ok (.iload_n 1, 1) := by decide +kernel
theorem dX10_errorOfReads_161 : decode cX10_errorOfReads 161 = .ok (.ireturn, 1) := by decide +kernel
theorem dX10_errorOfReads_162 : decode cX10_errorOfReads 162 = .ok (.iinc 1 1, 3) := by decide +kernel
theorem dX10_errorOfReads_165 : decode cX10_errorOfReads 165 = .ok (.iinc 4 1, 3) := by decide +kernel
theorem dX10_errorOfReads_168 : decode cX10_errorOfReads 168 = .ok (.goto (-26), 3) := by decide +kernel
theorem dX10_errorOfReads_171 : decode cX10_errorOfReads 171 = .ok (.aload_n 0, 1) := by decide +kernel
theorem dX10_errorOfReads_172 : decode cX10_errorOfReads 172 = .ok (.iconst 1, 1) := by decide +kernel
theorem dX10_errorOfReads_173 : decode cX10_errorOfReads 173 = .ok (.iload_n 1, 1) := by decide +kernel
theorem dX10_errorOfReads_174 : decode cX10_errorOfReads 174 = .ok (.invokevirtual 93, 3) := by decide +kernel
theorem dX10_errorOfReads_177 : decode cX10_errorOfReads 177 = .ok (.bipush 10, 2) := by decide +kernel
theorem dX10_errorOfReads_179 : decode cX10_errorOfReads 179 = .ok (.if_icmp .eq 5, 3) := by decide +kernel
theorem dX10_errorOfReads_182 : decode cX10_errorOfReads 182 = .ok (.iload_n 1, 1) := by decide +kernel
theorem dX10_errorOfReads_183 : decode cX10_errorOfReads 183 = .ok (.ireturn, 1) := by decide +kernel
theorem dX10_errorOfReads_184 : decode cX10_errorOfReads 184 = .ok (.iinc 1 1, 3) := by decide +kernel
theorem dX10_errorOfReads_187 : decode cX10_errorOfReads 187 = .ok (.iinc 2 1, 3) := by decide +kernel
theorem dX10_errorOfReads_190 : decode cX10_errorOfReads 190 = .ok (.goto (-186), 3) := by decide +kernel
theorem dX10_errorOfReads_193 : decode cX10_errorOfReads 193 = .ok (.iconst (-1), 1) := by decide +kernel
theorem dX10_errorOfReads_194 : decode cX10_errorOfReads 194 = .ok (.ireturn, 1) := by decide +kernel
theorem dX10_errorOfReference_0 : decode cX10_errorOfReference 0 = .ok (.aload_n 0, 1) := by decide +kernel
theorem dX10_errorOfReference_1 : decode cX10_errorOfReference 1 = .ok (.iconst 0, 1) := by decide +kernel
theorem dX10_errorOfReference_2 : decode cX10_errorOfReference 2 = .ok (.iconst 0, 1) := by decide +kernel
theorem dX10_errorOfReference_3 : decode cX10_errorOfReference 3 = .ok (.invokevirtual 93, 3) := by decide +kernel
theorem dX10_errorOfReference_6 : decode cX10_errorOfReference 6 = .ok (.bipush 62, 2) := by decide +kernel
theorem dX10_errorOfReference_8 : decode cX10_errorOfReference 8 = .ok (.if_icmp .eq 5, 3) := by decide +kernel
theorem dX10_errorOfReference_11 : decode cX10_errorOfReference 11 = .ok (.iconst 0, 1) := by decide +kernel
theorem dX10_errorOfReference_12 : decode cX10_errorOfReference 12 = .ok (.ireturn, 1) := by decide +kernel
theorem dX10_errorOfReference_13 : decode cX10_errorOfReference 13 = .ok (.aload_n 0, 1) := by decide +kernel
theorem dX10_errorOfReference_14 : decode cX10_errorOfReference 14 = .ok (.iconst 0, 1) := by decide +kernel
theorem dX10_errorOfReference_15 : decode cX10_errorOfReference 15 = .ok (.iconst 1, 1) := by decide +kernel
theorem dX10_errorOfReference_16 : decode cX10_errorOfReference 16 = .ok (.invokevirtual 101, 3) := by decide +kernel
theorem dX10_errorOfReference_19 : decode cX10_errorOfReference 19 = .ok (.istore_n 1, 1) := by decide +kernel
theorem dX10_errorOfReference_20 : decode cX10_errorOfReference 20 = .ok (.iload_n 1, 1) := by decide +kernel
theorem dX10_errorOfReference_21 : decode cX10_errorOfReference 21 = .ok (.ifCond .ge 9, 3) := by decide +kernel
theorem dX10_errorOfReference_24 : decode cX10_errorOfReference 24 = .ok (.iload_n 1, 1) := by decide +kernel
theorem dX10_errorOfReference_25 : decode cX10_errorOfReference 25 = .ok (.sipush 1000, 3) := by decide +kernel
theorem dX10_errorOfReference_28 : decode cX10_errorOfReference 28 = .ok (.iadd, 1) := by decide +kernel
theorem dX10_errorOfReference_29 : decode cX10_errorOfReference 29 = .ok (.ireturn, 1) := by decide +kernel
theorem dX10_errorOfReference_30 : decode cX10_errorOfReference 30 = .ok (.iconst 0, 1) := by decide +kernel
theorem dX10_errorOfReference_31 : decode cX10_errorOfReference 31 = .ok (.istore_n 2, 1) := by decide +kernel
theorem dX10_errorOfReference_32 : decode cX10_errorOfReference 32 = .ok (.iconst 1, 1) := by decide +kernel
theorem dX10_errorOfReference_33 : decode cX10_errorOfReference 33 = .ok (.istore_n 3, 1) := by decide +kernel
theorem dX10_errorOfReference_34 : decode cX10_errorOfReference 34 = .ok (.iload_n 3, 1) := by decide +kernel
theorem dX10_errorOfReference_35 : decode cX10_errorOfReference 35 = .ok (.ifCond .eq 79, 3) := by decide +kernel
theorem dX10_errorOfReference_38 : decode cX10_errorOfReference 38 = .ok (.iconst 0, 1) := by decide +kernel
theorem dX10_errorOfReference_39 : decode cX10_errorOfReference 39 = .ok (.istore 4, 2) := by decide +kernel
theorem dX10_errorOfReference_41 : decode cX10_errorOfReference 41 = .ok (.iload_n 2, 1) := by decide +kernel
theorem dX10_errorOfReference_42 : decode cX10_errorOfReference 42 = .ok (.bipush 48, 2) := by decide +kernel
theorem dX10_errorOfReference_44 : decode cX10_errorOfReference 44 = .ok (.if_icmp .ge 30, 3) := by decide +kernel
theorem dX10_errorOfReference_47 : decode cX10_errorOfReference 47 = .ok (.aload_n 0, 1) := by decide +kernel
theorem dX10_errorOfReference_48 : decode cX10_errorOfReference 48 = .ok (.iconst 0, 1) := by decide +kernel
theorem dX10_errorOfReference_49 : decode cX10_errorOfReference 49 = .ok (.iload_n 1, 1) := by decide +kernel
theorem dX10_errorOfReference_50 : decode cX10_errorOfReference 50 = .ok (.invokevirtual 93, 3) := by decide +kernel
theorem dX10_errorOfReference_53 : decode cX10_errorOfReference 53 = .ok (.invokestatic 105, 3) := by decide +kernel
theorem dX10_errorOfReference_56 : decode cX10_errorOfReference 56 = .ok (.invokestatic 109, 3) := by decide +kernel
theorem dX10_errorOfReference_59 : decode cX10_errorOfReference 59 = .ok (.ifCond .eq 15, 3) := by decide +kernel
theorem dX10_errorOfReference_62 : decode cX10_errorOfReference 62 = .ok (.iinc 1 1, 3) := by decide +kernel
theorem dX10_errorOfReference_65 : decode cX10_errorOfReference 65 = .ok (.iinc 4 1, 3) := by decide +kernel
theorem dX10_errorOfReference_68 : decode cX10_errorOfReference 68 = .ok (.iinc 2 1, 3) := by decide +kernel
theorem dX10_errorOfReference_71 : decode cX10_errorOfReference 71 = .ok (.goto (-30), 3) := by decide +kernel
theorem dX10_errorOfReference_74 : decode cX10_errorOfReference 74 = .ok (.iload 4, 2) := by decide +kernel
theorem dX10_errorOfReference_76 : decode cX10_errorOfReference 76 = .ok (.ifCond .eq 14, 3) := by decide +kernel
theorem dX10_errorOfReference_79 : decode cX10_errorOfReference 79 = .ok (.aload_n 0, 1) := by decide +kernel
theorem dX10_errorOfReference_80 : decode cX10_errorOfReference 80 = .ok (.iconst 0, 1) := by decide +kernel
theorem dX10_errorOfReference_81 : decode cX10_errorOfReference 81 = .ok (.iload_n 1, 1) := by decide +kernel
theorem dX10_errorOfReference_82 : decode cX10_errorOfReference 82 = .ok (.invokevirtual 93, 3) := by decide +kernel
theorem dX10_errorOfReference_85 : decode cX10_errorOfReference 85 = .ok (.bipush 10, 2) := by decide +kernel
theorem dX10_errorOfReference_87 : decode cX10_errorOfReference 87 = .ok (.if_icmp .eq 5, 3) := by decide +kernel
theorem dX10_errorOfReference_90 : decode cX10_errorOfReference 90 = .ok (.iload_n 1, 1) := by decide +kernel
theorem dX10_errorOfReference_91 : decode cX10_errorOfReference 91 = .ok (.ireturn, 1) := by decide +kernel
theorem dX10_errorOfReference_92 : decode cX10_errorOfReference 92 = .ok (.iinc 1 1, 3) := by decide +kernel
theorem dX10_errorOfReference_95 : decode cX10_errorOfReference 95 = .ok (.iload_n 1, 1) := by decide +kernel
theorem dX10_errorOfReference_96 : decode cX10_errorOfReference 96 = .ok (.aload_n 0, 1) := by decide +kernel
theorem dX10_errorOfReference_97 : decode cX10_errorOfReference 97 = .ok (.getfield 13, 3) := by decide +kernel
theorem dX10_errorOfReference_100 : decode cX10_errorOfReference 100 = .ok (.iconst 0, 1) := by decide +kernel
theorem dX10_errorOfReference_101 : decode cX10_errorOfReference 101 = .ok (.iaload, 1) := by decide +kernel
theorem dX10_errorOfReference_102 : decode cX10_errorOfReference 102 = .ok (.if_icmp .ge 7, 3) := by decide +kernel
theorem dX10_errorOfReference_105 : decode cX10_errorOfReference 105 = .ok (.iconst 1, 1) := by decide +kernel
theorem dX10_errorOfReference_106 : decode cX10_errorOfReference 106 = .ok (.goto 4, 3) := by decide +kernel
theorem dX10_errorOfReference_109 : decode cX10_errorOfReference 109 = .ok (.iconst 0, 1) := by decide +kernel
theorem dX10_errorOfReference_110 : decode cX10_errorOfReference 110 = .ok (.istore_n 3, 1) := by decide +kernel
theorem dX10_errorOfReference_111 : decode cX10_errorOfReference 111 = .ok (.goto (-77), 3) := by decide +kernel
theorem dX10_errorOfReference_114 : decode cX10_errorOfReference 114 = .ok (.iconst (-1), 1) := by decide +kernel
theorem dX10_errorOfReference_115 : decode cX10_errorOfReference 115 = .ok (.ireturn, 1) := by decide +kernel
theorem dX10_firstOf_0 : decode cX10_firstOf 0 = .ok (.iload_n 0, 1) := by decide +kernel
theorem dX10_firstOf_1 : decode cX10_firstOf 1 = .ok (.ifCond .eq 13, 3) := by decide +kernel
theorem dX10_firstOf_4 : decode cX10_firstOf 4 = .ok (.iload_n 0, 1) := by decide +kernel
theorem dX10_firstOf_5 : decode cX10_firstOf 5 = .ok (.iconst 1, 1) := by decide +kernel
theorem dX10_firstOf_6 : decode cX10_firstOf 6 = .ok (.if_icmp .eq 8, 3) := by decide +kernel
theorem dX10_firstOf_9 : decode cX10_firstOf 9 = .ok (.iload_n 0, 1) := by decide +kernel
theorem dX10_firstOf_10 : decode cX10_firstOf 10 = .ok (.iconst 3, 1) := by decide +kernel
theorem dX10_firstOf_11 : decode cX10_firstOf 11 = .ok (.if_icmp .ne 7, 3) := by decide +kernel
theorem dX10_firstOf_14 : decode cX10_firstOf 14 = .ok (.iconst 0, 1) := by decide +kernel
theorem dX10_firstOf_15 : decode cX10_firstOf 15 = .ok (.goto 13, 3) := by decide +kernel
theorem dX10_firstOf_18 : decode cX10_firstOf 18 = .ok (.iload_n 0, 1) := by decide +kernel
theorem dX10_firstOf_19 : decode cX10_firstOf 19 = .ok (.iconst 5, 1) := by decide +kernel
theorem dX10_firstOf_20 : decode cX10_firstOf 20 = .ok (.if_icmp .ne 7, 3) := by decide +kernel
theorem dX10_firstOf_23 : decode cX10_firstOf 23 = .ok (.iconst 2, 1) := by decide +kernel
theorem dX10_firstOf_24 : decode cX10_firstOf 24 = .ok (.goto 4, 3) := by decide +kernel
theorem dX10_firstOf_27 : decode cX10_firstOf 27 = .ok (.iconst 1, 1) := by decide +kernel
theorem dX10_firstOf_28 : decode cX10_firstOf 28 = .ok (.ireturn, 1) := by decide +kernel
theorem dX10_gainOf_0 : decode cX10_gainOf 0 = .ok (.iload_n 0, 1) := by decide +kernel
theorem dX10_gainOf_1 : decode cX10_gainOf 1 = .ok (.iconst 1, 1) := by decide +kernel
theorem dX10_gainOf_2 : decode cX10_gainOf 2 = .ok (.if_icmp .ne 10, 3) := by decide +kernel
theorem dX10_gainOf_5 : decode cX10_gainOf 5 = .ok (.bipush 10, 2) := by decide +kernel
theorem dX10_gainOf_7 : decode cX10_gainOf 7 = .ok (.iload_n 1, 1) := by decide +kernel
theorem dX10_gainOf_8 : decode cX10_gainOf 8 = .ok (.iadd, 1) := by decide +kernel
theorem dX10_gainOf_9 : decode cX10_gainOf 9 = .ok (.goto 19, 3) := by decide +kernel
theorem dX10_gainOf_12 : decode cX10_gainOf 12 = .ok (.iload_n 0, 1) := by decide +kernel
theorem dX10_gainOf_13 : decode cX10_gainOf 13 = .ok (.iconst 2, 1) := by decide +kernel
theorem dX10_gainOf_14 : decode cX10_gainOf 14 = .ok (.if_icmp .ne 10, 3) := by decide +kernel
theorem dX10_gainOf_17 : decode cX10_gainOf 17 = .ok (.bipush 20, 2) := by decide +kernel
theorem dX10_gainOf_19 : decode cX10_gainOf 19 = .ok (.iload_n 1, 1) := by decide +kernel
theorem dX10_gainOf_20 : decode cX10_gainOf 20 = .ok (.iadd, 1) := by decide +kernel
theorem dX10_gainOf_21 : decode cX10_gainOf 21 = .ok (.goto 7, 3) := by decide +kernel
theorem dX10_gainOf_24 : decode cX10_gainOf 24 = .ok (.bipush 40, 2) := by decide +kernel
theorem dX10_gainOf_26 : decode cX10_gainOf 26 = .ok (.iload_n 1, 1) := by decide +kernel
theorem dX10_gainOf_27 : decode cX10_gainOf 27 = .ok (.iadd, 1) := by decide +kernel
theorem dX10_gainOf_28 : decode cX10_gainOf 28 = .ok (.ireturn, 1) := by decide +kernel
theorem dX10_greatestLoss_0 : decode cX10_greatestLoss 0 = .ok (.iconst 0, 1) := by decide +kernel
theorem dX10_greatestLoss_1 : decode cX10_greatestLoss 1 = .ok (.istore_n 1, 1) := by decide +kernel
theorem dX10_greatestLoss_2 : decode cX10_greatestLoss 2 = .ok (.iconst 1, 1) := by decide +kernel
theorem dX10_greatestLoss_3 : decode cX10_greatestLoss 3 = .ok (.istore_n 2, 1) := by decide +kernel
theorem dX10_greatestLoss_4 : decode cX10_greatestLoss 4 = .ok (.iload_n 2, 1) := by decide +kernel
theorem dX10_greatestLoss_5 : decode cX10_greatestLoss 5 = .ok (.aload_n 0, 1) := by decide +kernel
theorem dX10_greatestLoss_6 : decode cX10_greatestLoss 6 = .ok (.getfield 153, 3) := by decide +kernel
theorem dX10_greatestLoss_9 : decode cX10_greatestLoss 9 = .ok (.if_icmp .ge 48, 3) := by decide +kernel
theorem dX10_greatestLoss_12 : decode cX10_greatestLoss 12 = .ok (.aload_n 0, 1) := by decide +kernel
theorem dX10_greatestLoss_13 : decode cX10_greatestLoss 13 = .ok (.getfield 149, 3) := by decide +kernel
theorem dX10_greatestLoss_16 : decode cX10_greatestLoss 16 = .ok (.ifCond .eq 41, 3) := by decide +kernel
theorem dX10_greatestLoss_19 : decode cX10_greatestLoss 19 = .ok (.aload_n 0, 1) := by decide +kernel
theorem dX10_greatestLoss_20 : decode cX10_greatestLoss 20 = .ok (.getfield 80, 3) := by decide +kernel
theorem dX10_greatestLoss_23 : decode cX10_greatestLoss 23 = .ok (.iload_n 2, 1) := by decide +kernel
theorem dX10_greatestLoss_24 : decode cX10_greatestLoss 24 = .ok (.iaload, 1) := by decide +kernel
theorem dX10_greatestLoss_25 : decode cX10_greatestLoss 25 = .ok (.bipush 10, 2) := by decide +kernel
theorem dX10_greatestLoss_27 : decode cX10_greatestLoss 27 = .ok (.if_icmp .ge 22, 3) := by decide +kernel
theorem dX10_greatestLoss_30 : decode cX10_greatestLoss 30 = .ok (.aload_n 0, 1) := by decide +kernel
theorem dX10_greatestLoss_31 : decode cX10_greatestLoss 31 = .ok (.getfield 80, 3) := by decide +kernel
theorem dX10_greatestLoss_34 : decode cX10_greatestLoss 34 = .ok (.iload_n 2, 1) := by decide +kernel
theorem dX10_greatestLoss_35 : decode cX10_greatestLoss 35 = .ok (.iaload, 1) := by decide +kernel
theorem dX10_greatestLoss_36 : decode cX10_greatestLoss 36 = .ok (.iload_n 1, 1) := by decide +kernel
theorem dX10_greatestLoss_37 : decode cX10_greatestLoss 37 = .ok (.if_icmp .le 12, 3) := by decide +kernel
theorem dX10_greatestLoss_40 : decode cX10_greatestLoss 40 = .ok (.aload_n 0, 1) := by decide +kernel
theorem dX10_greatestLoss_41 : decode cX10_greatestLoss 41 = .ok (.getfield 80, 3) := by decide +kernel
theorem dX10_greatestLoss_44 : decode cX10_greatestLoss 44 = .ok (.iload_n 2, 1) := by decide +kernel
theorem dX10_greatestLoss_45 : decode cX10_greatestLoss 45 = .ok (.iaload, 1) := by decide +kernel
theorem dX10_greatestLoss_46 : decode cX10_greatestLoss 46 = .ok (.goto 4, 3) := by decide +kernel
theorem dX10_greatestLoss_49 : decode cX10_greatestLoss 49 = .ok (.iload_n 1, 1) := by decide +kernel
theorem dX10_greatestLoss_50 : decode cX10_greatestLoss 50 = .ok (.istore_n 1, 1) := by decide +kernel
theorem dX10_greatestLoss_51 : decode cX10_greatestLoss 51 = .ok (.iinc 2 1, 3) := by decide +kernel
theorem dX10_greatestLoss_54 : decode cX10_greatestLoss 54 = .ok (.goto (-50), 3) := by decide +kernel
theorem dX10_greatestLoss_57 : decode cX10_greatestLoss 57 = .ok (.iload_n 1, 1) := by decide +kernel
theorem dX10_greatestLoss_58 : decode cX10_greatestLoss 58 = .ok (.ireturn, 1) := by decide +kernel
theorem dX10_isBase_0 : decode cX10_isBase 0 = .ok (.iload_n 0, 1) := by decide +kernel
theorem dX10_isBase_1 : decode cX10_isBase 1 = .ok (.ifCond .lt 12, 3) := by decide +kernel
theorem dX10_isBase_4 : decode cX10_isBase 4 = .ok (.iload_n 0, 1) := by decide +kernel
theorem dX10_isBase_5 : decode cX10_isBase 5 = .ok (.iconst 4, 1) := by decide +kernel
theorem dX10_isBase_6 : decode cX10_isBase 6 = .ok (.if_icmp .ge 7, 3) := by decide +kernel
theorem dX10_isBase_9 : decode cX10_isBase 9 = .ok (.iconst 1, 1) := by decide +kernel
theorem dX10_isBase_10 : decode cX10_isBase 10 = .ok (.goto 4, 3) := by decide +kernel
theorem dX10_isBase_13 : decode cX10_isBase 13 = .ok (.iconst 0, 1) := by decide +kernel
theorem dX10_isBase_14 : decode cX10_isBase 14 = .ok (.ireturn, 1) := by decide +kernel
theorem dX10_length_0 : decode cX10_length 0 = .ok (.aload_n 0, 1) := by decide +kernel
theorem dX10_length_1 : decode cX10_length 1 = .ok (.iconst (-1), 1) := by decide +kernel
theorem dX10_length_2 : decode cX10_length 2 = .ok (.invokevirtual 263, 3) := by decide +kernel
theorem dX10_length_5 : decode cX10_length 5 = .ok (.aload_n 0, 1) := by decide +kernel
theorem dX10_length_6 : decode cX10_length 6 = .ok (.getfield 223, 3) := by decide +kernel
theorem dX10_length_9 : decode cX10_length 9 = .ok (.ireturn, 1) := by decide +kernel
theorem dX10_letter_0 : decode cX10_letter 0 = .ok (.aload_n 0, 1) := by decide +kernel
theorem dX10_letter_1 : decode cX10_letter 1 = .ok (.iload_n 1, 1) := by decide +kernel
theorem dX10_letter_2 : decode cX10_letter 2 = .ok (.invokevirtual 263, 3) := by decide +kernel
theorem dX10_letter_5 : decode cX10_letter 5 = .ok (.aload_n 0, 1) := by decide +kernel
theorem dX10_letter_6 : decode cX10_letter 6 = .ok (.getfield 229, 3) := by decide +kernel
theorem dX10_letter_9 : decode cX10_letter 9 = .ok (.ireturn, 1) := by decide +kernel
theorem dX10_link_0 : decode cX10_link 0 = .ok (.aload_n 0, 1) := by decide +kernel
theorem dX10_link_1 : decode cX10_link 1 = .ok (.getfield 71, 3) := by decide +kernel
theorem dX10_link_4 : decode cX10_link 4 = .ok (.aload_n 0, 1) := by decide +kernel
theorem dX10_link_5 : decode cX10_link 5 = .ok (.getfield 133, 3) := by decide +kernel
theorem dX10_link_8 : decode cX10_link 8 = .ok (.iload_n 1, 1) := by decide +kernel
theorem dX10_link_9 : decode cX10_link 9 = .ok (.iastore, 1) := by decide +kernel
theorem dX10_link_10 : decode cX10_link 10 = .ok (.aload_n 0, 1) := by decide +kernel
theorem dX10_link_11 : decode cX10_link 11 = .ok (.getfield 74, 3) := by decide +kernel
theorem dX10_link_14 : decode cX10_link 14 = .ok (.aload_n 0, 1) := by decide +kernel
theorem dX10_link_15 : decode cX10_link 15 = .ok (.getfield 133, 3) := by decide +kernel
theorem dX10_link_18 : decode cX10_link 18 = .ok (.iload_n 2, 1) := by decide +kernel
theorem dX10_link_19 : decode cX10_link 19 = .ok (.iastore, 1) := by decide +kernel
theorem dX10_link_20 : decode cX10_link 20 = .ok (.aload_n 0, 1) := by decide +kernel
theorem dX10_link_21 : decode cX10_link 21 = .ok (.getfield 77, 3) := by decide +kernel
theorem dX10_link_24 : decode cX10_link 24 = .ok (.aload_n 0, 1) := by decide +kernel
theorem dX10_link_25 : decode cX10_link 25 = .ok (.getfield 133, 3) := by decide +kernel
theorem dX10_link_28 : decode cX10_link 28 = .ok (.iload_n 3, 1) := by decide +kernel
theorem dX10_link_29 : decode cX10_link 29 = .ok (.iastore, 1) := by decide +kernel
theorem dX10_link_30 : decode cX10_link 30 = .ok (.aload_n 0, 1) := by decide +kernel
theorem dX10_link_31 : decode cX10_link 31 = .ok (.dup, 1) := by decide +kernel
theorem dX10_link_32 : decode cX10_link 32 = .ok (.getfield 133, 3) := by decide +kernel
theorem dX10_link_35 : decode cX10_link 35 = .ok (.iconst 1, 1) := by decide +kernel
theorem dX10_link_36 : decode cX10_link 36 = .ok (.iadd, 1) := by decide +kernel
theorem dX10_link_37 : decode cX10_link 37 = .ok (.putfield 133, 3) := by decide +kernel
theorem dX10_link_40 : decode cX10_link 40 = .ok (.return_, 1) := by decide +kernel
theorem dX10_links_0 : decode cX10_links 0 = .ok (.iconst 0, 1) := by decide +kernel
theorem dX10_links_1 : decode cX10_links 1 = .ok (.istore_n 3, 1) := by decide +kernel
theorem dX10_links_2 : decode cX10_links 2 = .ok (.iconst 0, 1) := by decide +kernel
theorem dX10_links_3 : decode cX10_links 3 = .ok (.istore 4, 2) := by decide +kernel
theorem dX10_links_5 : decode cX10_links 5 = .ok (.iload 4, 2) := by decide +kernel
theorem dX10_links_7 : decode cX10_links 7 = .ok (.aload_n 0, 1) := by decide +kernel
theorem dX10_links_8 : decode cX10_links 8 = .ok (.getfield 133, 3) := by decide +kernel
theorem dX10_links_11 : decode cX10_links 11 = .ok (.if_icmp .ge 62, 3) := by decide +kernel
theorem dX10_links_14 : decode cX10_links 14 = .ok (.aload_n 0, 1) := by decide +kernel
theorem dX10_links_15 : decode cX10_links 15 = .ok (.getfield 74, 3) := by decide +kernel
theorem dX10_links_18 : decode cX10_links 18 = .ok (.iload 4, 2) := by decide +kernel
theorem dX10_links_20 : decode cX10_links 20 = .ok (.iaload, 1) := by decide +kernel
theorem dX10_links_21 : decode cX10_links 21 = .ok (.istore 5, 2) := by decide +kernel
theorem dX10_links_23 : decode cX10_links 23 = .ok (.iload_n 3, 1) := by decide +kernel
theorem dX10_links_24 : decode cX10_links 24 = .ok (.aload_n 0, 1) := by decide +kernel
theorem dX10_links_25 : decode cX10_links 25 = .ok (.getfield 71, 3) := by decide +kernel
theorem dX10_links_28 : decode cX10_links 28 = .ok (.iload 4, 2) := by decide +kernel
theorem dX10_links_30 : decode cX10_links 30 = .ok (.iaload, 1) := by decide +kernel
theorem dX10_links_31 : decode cX10_links 31 = .ok (.iload_n 1, 1) := by decide +kernel
theorem dX10_links_32 : decode cX10_links 32 = .ok (.if_icmp .ne 32, 3) := by decide +kernel
theorem dX10_links_35 : decode cX10_links 35 = .ok (.iload 5, 2) := by decide +kernel
theorem dX10_links_37 : decode cX10_links 37 = .ok (.ifCond .ne 7, 3) := by decide +kernel
theorem dX10_links_40 : decode cX10_links 40 = .ok (.iconst 0, 1) := by decide +kernel
theorem dX10_links_41 : decode cX10_links 41 = .ok (.goto 15, 3) := by decide +kernel
theorem dX10_links_44 : decode cX10_links 44 = .ok (.iload 5, 2) := by decide +kernel
theorem dX10_links_46 : decode cX10_links 46 = .ok (.bipush 10, 2) := by decide +kernel
theorem dX10_links_48 : decode cX10_links 48 = .ok (.if_icmp .ge 7, 3) := by decide +kernel
theorem dX10_links_51 : decode cX10_links 51 = .ok (.iconst 1, 1) := by decide +kernel
theorem dX10_links_52 : decode cX10_links 52 = .ok (.goto 4, 3) := by decide +kernel
theorem dX10_links_55 : decode cX10_links 55 = .ok (.iconst 2, 1) := by decide +kernel
theorem dX10_links_56 : decode cX10_links 56 = .ok (.iload_n 2, 1) := by decide +kernel
theorem dX10_links_57 : decode cX10_links 57 = .ok (.if_icmp .ne 7, 3) := by decide +kernel
theorem dX10_links_60 : decode cX10_links 60 = .ok (.iconst 1, 1) := by decide +kernel
theorem dX10_links_61 : decode cX10_links 61 = .ok (.goto 4, 3) := by decide +kernel
theorem dX10_links_64 : decode cX10_links 64 = .ok (.iconst 0, 1) := by decide +kernel
theorem dX10_links_65 : decode cX10_links 65 = .ok (.iadd, 1) := by decide +kernel
theorem dX10_links_66 : decode cX10_links 66 = .ok (.istore_n 3, 1) := by decide +kernel
theorem dX10_links_67 : decode cX10_links 67 = .ok (.iinc 4 1, 3) := by decide +kernel
theorem dX10_links_70 : decode cX10_links 70 = .ok (.goto (-65), 3) := by decide +kernel
theorem dX10_links_73 : decode cX10_links 73 = .ok (.iload_n 3, 1) := by decide +kernel
theorem dX10_links_74 : decode cX10_links 74 = .ok (.ireturn, 1) := by decide +kernel
theorem dX10_look_0 : decode cX10_look 0 = .ok (.iload_n 2, 1) := by decide +kernel
theorem dX10_look_1 : decode cX10_look 1 = .ok (.aload_n 0, 1) := by decide +kernel
theorem dX10_look_2 : decode cX10_look 2 = .ok (.getfield 13, 3) := by decide +kernel
theorem dX10_look_5 : decode cX10_look 5 = .ok (.iload_n 1, 1) := by decide +kernel
theorem dX10_look_6 : decode cX10_look 6 = .ok (.iaload, 1) := by decide +kernel
theorem dX10_look_7 : decode cX10_look 7 = .ok (.if_icmp .ge 17, 3) := by decide +kernel
theorem dX10_look_10 : decode cX10_look 10 = .ok (.aload_n 0, 1) := by decide +kernel
theorem dX10_look_11 : decode cX10_look 11 = .ok (.getfield 7, 3) := by decide +kernel
theorem dX10_look_14 : decode cX10_look 14 = .ok (.bipush 100, 2) := by decide +kernel
theorem dX10_look_16 : decode cX10_look 16 = .ok (.iload_n 1, 1) := by decide +kernel
theorem dX10_look_17 : decode cX10_look 17 = .ok (.imul, 1) := by decide +kernel
theorem dX10_look_18 : decode cX10_look 18 = .ok (.iload_n 2, 1) := by decide +kernel
theorem dX10_look_19 : decode cX10_look 19 = .ok (.iadd, 1) := by decide +kernel
theorem dX10_look_20 : decode cX10_look 20 = .ok (.caload, 1) := by decide +kernel
theorem dX10_look_21 : decode cX10_look 21 = .ok (.goto 4, 3) := by decide +kernel
theorem dX10_look_24 : decode cX10_look 24 = .ok (.iconst 0, 1) := by decide +kernel
theorem dX10_look_25 : decode cX10_look 25 = .ok (.ireturn, 1) := by decide +kernel
theorem dX10_measure_0 : decode cX10_measure 0 = .ok (.aload_n 0, 1) := by decide +kernel
theorem dX10_measure_1 : decode cX10_measure 1 = .ok (.getfield 120, 3) := by decide +kernel
theorem dX10_measure_4 : decode cX10_measure 4 = .ok (.iload_n 2, 1) := by decide +kernel
theorem dX10_measure_5 : decode cX10_measure 5 = .ok (.isub, 1) := by decide +kernel
theorem dX10_measure_6 : decode cX10_measure 6 = .ok (.bipush 19, 2) := by decide +kernel
theorem dX10_measure_8 : decode cX10_measure 8 = .ok (.if_icmp .ge 12, 3) := by decide +kernel
theorem dX10_measure_11 : decode cX10_measure 11 = .ok (.aload_n 0, 1) := by decide +kernel
theorem dX10_measure_12 : decode cX10_measure 12 = .ok (.getfield 120, 3) := by decide +kernel
theorem dX10_measure_15 : decode cX10_measure 15 = .ok (.iload_n 2, 1) := by decide +kernel
theorem dX10_measure_16 : decode cX10_measure 16 = .ok (.isub, 1) := by decide +kernel
theorem dX10_measure_17 : decode cX10_measure 17 = .ok (.goto 5, 3) := by decide +kernel
theorem dX10_measure_20 : decode cX10_measure 20 = .ok (.bipush 19, 2) := by decide +kernel
theorem dX10_measure_22 : decode cX10_measure 22 = .ok (.istore_n 3, 1) := by decide +kernel
theorem dX10_measure_23 : decode cX10_measure 23 = .ok (.iconst 0, 1) := by decide +kernel
theorem dX10_measure_24 : decode cX10_measure 24 = .ok (.istore 4, 2) := by decide +kernel
theorem dX10_measure_26 : decode cX10_measure 26 = .ok (.iload 4, 2) := by decide +kernel
theorem dX10_measure_28 : decode cX10_measure 28 = .ok (.iload_n 1, 1) := by decide +kernel
theorem dX10_measure_29 : decode cX10_measure 29 = .ok (.if_icmp .gt 212, 3) := by decide +kernel
theorem dX10_measure_32 : decode cX10_measure 32 = .ok (.iconst 0, 1) := by decide +kernel
theorem dX10_measure_33 : decode cX10_measure 33 = .ok (.istore 5, 2) := by decide +kernel
theorem dX10_measure_35 : decode cX10_measure 35 = .ok (.iload 5, 2) := by decide +kernel
theorem dX10_measure_37 : decode cX10_measure 37 = .ok (.iload_n 3, 1) := by decide +kernel
theorem dX10_measure_38 : decode cX10_measure 38 = .ok (.if_icmp .gt 197, 3) := by decide +kernel
theorem dX10_measure_41 : decode cX10_measure 41 = .ok (.iload 4, 2) := by decide +kernel
theorem dX10_measure_43 : decode cX10_measure 43 = .ok (.ifCond .ne 8, 3) := by decide +kernel
theorem dX10_measure_46 : decode cX10_measure 46 = .ok (.iload 5, 2) := by decide +kernel
theorem dX10_measure_48 : decode cX10_measure 48 = .ok (.goto 60, 3) := by decide +kernel
theorem dX10_measure_51 : decode cX10_measure 51 = .ok (.iload 5, 2) := by decide +kernel
theorem dX10_measure_53 : decode cX10_measure 53 = .ok (.ifCond .ne 8, 3) := by decide +kernel
theorem dX10_measure_56 : decode cX10_measure 56 = .ok (.iload 4, 2) := by decide +kernel
theorem dX10_measure_58 : decode cX10_measure 58 = .ok (.goto 50, 3) := by decide +kernel
theorem dX10_measure_61 : decode cX10_measure 61 = .ok (.aload_n 0, 1) := by decide +kernel
theorem dX10_measure_62 : decode cX10_measure 62 = .ok (.getfield 59, 3) := by decide +kernel
theorem dX10_measure_65 : decode cX10_measure 65 = .ok (.bipush 20, 2) := by decide +kernel
theorem dX10_measure_67 : decode cX10_measure 67 = .ok (.iload 4, 2) := by decide +kernel
theorem dX10_measure_69 : decode cX10_measure 69 = .ok (.imul, 1) := by decide +kernel
theorem dX10_measure_70 : decode cX10_measure 70 = .ok (.bipush 20, 2) := by decide +kernel
theorem dX10_measure_72 : decode cX10_measure 72 = .ok (.isub, 1) := by decide +kernel
theorem dX10_measure_73 : decode cX10_measure 73 = .ok (.iload 5, 2) := by decide +kernel
theorem dX10_measure_75 : decode cX10_measure 75 = .ok (.iadd, 1) := by decide +kernel
theorem dX10_measure_76 : decode cX10_measure 76 = .ok (.iconst 1, 1) := by decide +kernel
theorem dX10_measure_77 : decode cX10_measure 77 = .ok (.isub, 1) := by decide +kernel
theorem dX10_measure_78 : decode cX10_measure 78 = .ok (.iaload, 1) := by decide +kernel
theorem dX10_measure_79 : decode cX10_measure 79 = .ok (.aload_n 0, 1) := by decide +kernel
theorem dX10_measure_80 : decode cX10_measure 80 = .ok (.getfield 53, 3) := by decide +kernel
theorem dX10_measure_83 : decode cX10_measure 83 = .ok (.iload 4, 2) := by decide +kernel
theorem dX10_measure_85 : decode cX10_measure 85 = .ok (.iconst 1, 1) := by decide +kernel
theorem dX10_measure_86 : decode cX10_measure 86 = .ok (.isub, 1) := by decide +kernel
theorem dX10_measure_87 : decode cX10_measure 87 = .ok (.iaload, 1) := by decide +kernel
theorem dX10_measure_88 : decode cX10_measure 88 = .ok (.aload_n 0, 1) := by decide +kernel
theorem dX10_measure_89 : decode cX10_measure 89 = .ok (.getfield 17, 3) := by decide +kernel
theorem dX10_measure_92 : decode cX10_measure 92 = .ok (.iload_n 2, 1) := by decide +kernel
theorem dX10_measure_93 : decode cX10_measure 93 = .ok (.iload 5, 2) := by decide +kernel
theorem dX10_measure_95 : decode cX10_measure 95 = .ok (.iadd, 1) := by decide +kernel
theorem dX10_measure_96 : decode cX10_measure 96 = .ok (.iconst 1, 1) := by decide +kernel
theorem dX10_measure_97 : decode cX10_measure 97 = .ok (.isub, 1) := by decide +kernel
theorem dX10_measure_98 : decode cX10_measure 98 = .ok (.iaload, 1) := by decide +kernel
theorem dX10_measure_99 : decode cX10_measure 99 = .ok (.if_icmp .ne 7, 3) := by decide +kernel
theorem dX10_measure_102 : decode cX10_measure 102 = .ok (.iconst 0, 1) := by decide +kernel
theorem dX10_measure_103 : decode cX10_measure 103 = .ok (.goto 4, 3) := by decide +kernel
theorem dX10_measure_106 : decode cX10_measure 106 = .ok (.iconst 1, 1) := by decide +kernel
theorem dX10_measure_107 : decode cX10_measure 107 = .ok (.iadd, 1) := by decide +kernel
theorem dX10_measure_108 : decode cX10_measure 108 = .ok (.istore 6, 2) := by decide +kernel
theorem dX10_measure_110 : decode cX10_measure 110 = .ok (.iload 4, 2) := by decide +kernel
theorem dX10_measure_112 : decode cX10_measure 112 = .ok (.ifCond .le 47, 3) := by decide +kernel
theorem dX10_measure_115 : decode cX10_measure 115 = .ok (.aload_n 0, 1) := by decide +kernel
theorem dX10_measure_116 : decode cX10_measure 116 = .ok (.getfield 59, 3) := by decide +kernel
theorem dX10_measure_119 : decode cX10_measure 119 = .ok (.bipush 20, 2) := by decide +kernel
theorem dX10_measure_121 : decode cX10_measure 121 = .ok (.iload 4, 2) := by decide +kernel
theorem dX10_measure_123 : decode cX10_measure 123 = .ok (.imul, 1) := by decide +kernel
theorem dX10_measure_124 : decode cX10_measure 124 = .ok (.bipush 20, 2) := by decide +kernel
theorem dX10_measure_126 : decode cX10_measure 126 = .ok (.isub, 1) := by decide +kernel
theorem dX10_measure_127 : decode cX10_measure 127 = .ok (.iload 5, 2) := by decide +kernel
theorem dX10_measure_129 : decode cX10_measure 129 = .ok (.iadd, 1) := by decide +kernel
theorem dX10_measure_130 : decode cX10_measure 130 = .ok (.iaload, 1) := by decide +kernel
theorem dX10_measure_131 : decode cX10_measure 131 = .ok (.iconst 1, 1) := by decide +kernel
theorem dX10_measure_132 : decode cX10_measure 132 = .ok (.iadd, 1) := by decide +kernel
theorem dX10_measure_133 : decode cX10_measure 133 = .ok (.iload 6, 2) := by decide +kernel
theorem dX10_measure_135 : decode cX10_measure 135 = .ok (.if_icmp .ge 24, 3) := by decide +kernel
theorem dX10_measure_138 : decode cX10_measure 138 = .ok (.aload_n 0, 1) := by decide +kernel
theorem dX10_measure_139 : decode cX10_measure 139 = .ok (.getfield 59, 3) := by decide +kernel
theorem dX10_measure_142 : decode cX10_measure 142 = .ok (.bipush 20, 2) := by decide +kernel
theorem dX10_measure_144 : decode cX10_measure 144 = .ok (.iload 4, 2) := by decide +kernel
theorem dX10_measure_146 : decode cX10_measure 146 = .ok (.imul, 1) := by decide +kernel
theorem dX10_measure_147 : decode cX10_measure 147 = .ok (.bipush 20, 2) := by decide +kernel
theorem dX10_measure_149 : decode cX10_measure 149 = .ok (.isub, 1) := by decide +kernel
theorem dX10_measure_150 : decode cX10_measure 150 = .ok (.iload 5, 2) := by decide +kernel
theorem dX10_measure_152 : decode cX10_measure 152 = .ok (.iadd, 1) := by decide +kernel
theorem dX10_measure_153 : decode cX10_measure 153 = .ok (.iaload, 1) := by decide +kernel
theorem dX10_measure_154 : decode cX10_measure 154 = .ok (.iconst 1, 1) := by decide +kernel
theorem dX10_measure_155 : decode cX10_measure 155 = .ok (.iadd, 1) := by decide +kernel
theorem dX10_measure_156 : decode cX10_measure 156 = .ok (.goto 5, 3) := by decide +kernel
theorem dX10_measure_159 : decode cX10_measure 159 = .ok (.iload 6, 2) := by decide +kernel
theorem dX10_measure_161 : decode cX10_measure 161 = .ok (.istore 6, 2) := by decide +kernel
theorem dX10_measure_163 : decode cX10_measure 163 = .ok (.iload 5, 2) := by decide +kernel
theorem dX10_measure_165 : decode cX10_measure 165 = .ok (.ifCond .le 45, 3) := by decide +kernel
theorem dX10_measure_168 : decode cX10_measure 168 = .ok (.aload_n 0, 1) := by decide +kernel
theorem dX10_measure_169 : decode cX10_measure 169 = .ok (.getfield 59, 3) := by decide +kernel
theorem dX10_measure_172 : decode cX10_measure 172 = .ok (.bipush 20, 2) := by decide +kernel
theorem dX10_measure_174 : decode cX10_measure 174 = .ok (.iload 4, 2) := by decide +kernel
theorem dX10_measure_176 : decode cX10_measure 176 = .ok (.imul, 1) := by decide +kernel
theorem dX10_measure_177 : decode cX10_measure 177 = .ok (.iload 5, 2) := by decide +kernel
theorem dX10_measure_179 : decode cX10_measure 179 = .ok (.iadd, 1) := by decide +kernel
theorem dX10_measure_180 : decode cX10_measure 180 = .ok (.iconst 1, 1) := by decide +kernel
theorem dX10_measure_181 : decode cX10_measure 181 = .ok (.isub, 1) := by decide +kernel
theorem dX10_measure_182 : decode cX10_measure 182 = .ok (.iaload, 1) := by decide +kernel
theorem dX10_measure_183 : decode cX10_measure 183 = .ok (.iconst 1, 1) := by decide +kernel
theorem dX10_measure_184 : decode cX10_measure 184 = .ok (.iadd, 1) := by decide +kernel
theorem dX10_measure_185 : decode cX10_measure 185 = .ok (.iload 6, 2) := by decide +kernel
theorem dX10_measure_187 : decode cX10_measure 187 = .ok (.if_icmp .ge 23, 3) := by decide +kernel
theorem dX10_measure_190 : decode cX10_measure 190 = .ok (.aload_n 0, 1) := by decide +kernel
theorem dX10_measure_191 : decode cX10_measure 191 = .ok (.getfield 59, 3) := by decide +kernel
theorem dX10_measure_194 : decode cX10_measure 194 = .ok (.bipush 20, 2) := by decide +kernel
theorem dX10_measure_196 : decode cX10_measure 196 = .ok (.iload 4, 2) := by decide +kernel
theorem dX10_measure_198 : decode cX10_measure 198 = .ok (.imul, 1) := by decide +kernel
theorem dX10_measure_199 : decode cX10_measure 199 = .ok (.iload 5, 2) := by decide +kernel
theorem dX10_measure_201 : decode cX10_measure 201 = .ok (.iadd, 1) := by decide +kernel
theorem dX10_measure_202 : decode cX10_measure 202 = .ok (.iconst 1, 1) := by decide +kernel
theorem dX10_measure_203 : decode cX10_measure 203 = .ok (.isub, 1) := by decide +kernel
theorem dX10_measure_204 : decode cX10_measure 204 = .ok (.iaload, 1) := by decide +kernel
theorem dX10_measure_205 : decode cX10_measure 205 = .ok (.iconst 1, 1) := by decide +kernel
theorem dX10_measure_206 : decode cX10_measure 206 = .ok (.iadd, 1) := by decide +kernel
theorem dX10_measure_207 : decode cX10_measure 207 = .ok (.goto 5, 3) := by decide +kernel
theorem dX10_measure_210 : decode cX10_measure 210 = .ok (.iload 6, 2) := by decide +kernel
theorem dX10_measure_212 : decode cX10_measure 212 = .ok (.istore 6, 2) := by decide +kernel
theorem dX10_measure_214 : decode cX10_measure 214 = .ok (.aload_n 0, 1) := by decide +kernel
theorem dX10_measure_215 : decode cX10_measure 215 = .ok (.getfield 59, 3) := by decide +kernel
theorem dX10_measure_218 : decode cX10_measure 218 = .ok (.bipush 20, 2) := by decide +kernel
theorem dX10_measure_220 : decode cX10_measure 220 = .ok (.iload 4, 2) := by decide +kernel
theorem dX10_measure_222 : decode cX10_measure 222 = .ok (.imul, 1) := by decide +kernel
theorem dX10_measure_223 : decode cX10_measure 223 = .ok (.iload 5, 2) := by decide +kernel
theorem dX10_measure_225 : decode cX10_measure 225 = .ok (.iadd, 1) := by decide +kernel
theorem dX10_measure_226 : decode cX10_measure 226 = .ok (.iload 6, 2) := by decide +kernel
theorem dX10_measure_228 : decode cX10_measure 228 = .ok (.iastore, 1) := by decide +kernel
theorem dX10_measure_229 : decode cX10_measure 229 = .ok (.iinc 5 1, 3) := by decide +kernel
theorem dX10_measure_232 : decode cX10_measure 232 = .ok (.goto (-197), 3) := by decide +kernel
theorem dX10_measure_235 : decode cX10_measure 235 = .ok (.iinc 4 1, 3) := by decide +kernel
theorem dX10_measure_238 : decode cX10_measure 238 = .ok (.goto (-212), 3) := by decide +kernel
theorem dX10_measure_241 : decode cX10_measure 241 = .ok (.iload_n 3, 1) := by decide +kernel
theorem dX10_measure_242 : decode cX10_measure 242 = .ok (.ireturn, 1) := by decide +kernel
theorem dX10_newline_0 : decode cX10_newline 0 = .ok (.iload_n 2, 1) := by decide +kernel
theorem dX10_newline_1 : decode cX10_newline 1 = .ok (.istore_n 3, 1) := by decide +kernel
theorem dX10_newline_2 : decode cX10_newline 2 = .ok (.aload_n 0, 1) := by decide +kernel
theorem dX10_newline_3 : decode cX10_newline 3 = .ok (.iload_n 1, 1) := by decide +kernel
theorem dX10_newline_4 : decode cX10_newline 4 = .ok (.iload_n 3, 1) := by decide +kernel
theorem dX10_newline_5 : decode cX10_newline 5 = .ok (.invokevirtual 93, 3) := by decide +kernel
theorem dX10_newline_8 : decode cX10_newline 8 = .ok (.bipush 10, 2) := by decide +kernel
theorem dX10_newline_10 : decode cX10_newline 10 = .ok (.if_icmp .eq 9, 3) := by decide +kernel
theorem dX10_newline_13 : decode cX10_newline 13 = .ok (.iinc 3 1, 3) := by decide +kernel
theorem dX10_newline_16 : decode cX10_newline 16 = .ok (.goto (-14), 3) := by decide +kernel
theorem dX10_newline_19 : decode cX10_newline 19 = .ok (.iload_n 3, 1) := by decide +kernel
theorem dX10_newline_20 : decode cX10_newline 20 = .ok (.ireturn, 1) := by decide +kernel
theorem dX10_out_0 : decode cX10_out 0 = .ok (.aload_n 0, 1) := by decide +kernel
theorem dX10_out_1 : decode cX10_out 1 = .ok (.aload_n 0, 1) := by decide +kernel
theorem dX10_out_2 : decode cX10_out 2 = .ok (.getfield 223, 3) := by decide +kernel
theorem dX10_out_5 : decode cX10_out 5 = .ok (.aload_n 0, 1) := by decide +kernel
theorem dX10_out_6 : decode cX10_out 6 = .ok (.getfield 226, 3) := by decide +kernel
theorem dX10_out_9 : decode cX10_out 9 = .ok (.if_icmp .ne 7, 3) := by decide +kernel
theorem dX10_out_12 : decode cX10_out 12 = .ok (.iload_n 1, 1) := by decide +kernel
theorem dX10_out_13 : decode cX10_out 13 = .ok (.goto 7, 3) := by decide +kernel
theorem dX10_out_16 : decode cX10_out 16 = .ok (.aload_n 0, 1) := by decide +kernel
theorem dX10_out_17 : decode cX10_out 17 = .ok (.getfield 229, 3) := by decide +kernel
theorem dX10_out_20 : decode cX10_out 20 = .ok (.putfield 229, 3) := by decide +kernel
theorem dX10_out_23 : decode cX10_out 23 = .ok (.aload_n 0, 1) := by decide +kernel
theorem dX10_out_24 : decode cX10_out 24 = .ok (.dup, 1) := by decide +kernel
theorem dX10_out_25 : decode cX10_out 25 = .ok (.getfield 223, 3) := by decide +kernel
theorem dX10_out_28 : decode cX10_out 28 = .ok (.iconst 1, 1) := by decide +kernel
theorem dX10_out_29 : decode cX10_out 29 = .ok (.iadd, 1) := by decide +kernel
theorem dX10_out_30 : decode cX10_out 30 = .ok (.putfield 223, 3) := by decide +kernel
theorem dX10_out_33 : decode cX10_out 33 = .ok (.return_, 1) := by decide +kernel
theorem dX10_outAlternative_0 : decode cX10_outAlternative 0 = .ok (.aload_n 0, 1) := by decide +kernel
theorem dX10_outAlternative_1 : decode cX10_outAlternative 1 = .ok (.getfield 80, 3) := by decide +kernel
theorem dX10_outAlternative_4 : decode cX10_outAlternative 4 = .ok (.iload_n 1, 1) := by decide +kernel
theorem dX10_outAlternative_5 : decode cX10_outAlternative 5 = .ok (.iaload, 1) := by decide +kernel
theorem dX10_outAlternative_6 : decode cX10_outAlternative 6 = .ok (.istore_n 3, 1) := by decide +kernel
theorem dX10_outAlternative_7 : decode cX10_outAlternative 7 = .ok (.iload_n 1, 1) := by decide +kernel
theorem dX10_outAlternative_8 : decode cX10_outAlternative 8 = .ok (.iconst 1, 1) := by decide +kernel
theorem dX10_outAlternative_9 : decode cX10_outAlternative 9 = .ok (.if_icmp .le 9, 3) := by decide +kernel
theorem dX10_outAlternative_12 : decode cX10_outAlternative 12 = .ok (.aload_n 0, 1) := by decide +kernel
theorem dX10_outAlternative_13 : decode cX10_outAlternative 13 = .ok (.bipush 44, 2) := by decide +kernel
theorem dX10_outAlternative_15 : decode cX10_outAlternative 15 = .ok (.invokevirtual 232, 3) := by decide +kernel
theorem dX10_outAlternative_18 : decode cX10_outAlternative 18 = .ok (.aload_n 0, 1) := by decide +kernel
theorem dX10_outAlternative_19 : decode cX10_outAlternative 19 = .ok (.getfield 149, 3) := by decide +kernel
theorem dX10_outAlternative_22 : decode cX10_outAlternative 22 = .ok (.ifCond .ne 9, 3) := by decide +kernel
theorem dX10_outAlternative_25 : decode cX10_outAlternative 25 = .ok (.aload_n 0, 1) := by decide +kernel
theorem dX10_outAlternative_26 : decode cX10_outAlternative 26 = .ok (.iload_n 3, 1) := by decide +kernel
theorem dX10_outAlternative_27 : decode cX10_outAlternative 27 = .ok (.invokevirtual 235, 3) := by decide +kernel
theorem dX10_outAlternative_30 : decode cX10_outAlternative 30 = .ok (.return_, 1) := by decide +kernel
theorem dX10_outAlternative_31 : decode cX10_outAlternative 31 = .ok (.aload_n 0, 1) := by decide +kernel
theorem dX10_outAlternative_32 : decode cX10_outAlternative 32 = .ok (.aload_n 0, 1) := by decide +kernel
theorem dX10_outAlternative_33 : decode cX10_outAlternative 33 = .ok (.getfield 17, 3) := by decide +kernel
theorem dX10_outAlternative_36 : decode cX10_outAlternative 36 = .ok (.aload_n 0, 1) := by decide +kernel
theorem dX10_outAlternative_37 : decode cX10_outAlternative 37 = .ok (.getfield 173, 3) := by decide +kernel
theorem dX10_outAlternative_40 : decode cX10_outAlternative 40 = .ok (.iaload, 1) := by decide +kernel
theorem dX10_outAlternative_41 : decode cX10_outAlternative 41 = .ok (.invokevirtual 235, 3) := by decide +kernel
theorem dX10_outAlternative_44 : decode cX10_outAlternative 44 = .ok (.iload_n 3, 1) := by decide +kernel
theorem dX10_outAlternative_45 : decode cX10_outAlternative 45 = .ok (.bipush 10, 2) := by decide +kernel
theorem dX10_outAlternative_47 : decode cX10_outAlternative 47 = .ok (.if_icmp .lt 8, 3) := by decide +kernel
theorem dX10_outAlternative_50 : decode cX10_outAlternative 50 = .ok (.aload_n 0, 1) := by decide +kernel
theorem dX10_outAlternative_51 : decode cX10_outAlternative 51 = .ok (.iload_n 3, 1) := by decide +kernel
theorem dX10_outAlternative_52 : decode cX10_outAlternative 52 = .ok (.invokevirtual 242, 3) := by decide +kernel
theorem dX10_outAlternative_55 : decode cX10_outAlternative 55 = .ok (.aload_n 0, 1) := by decide +kernel
theorem dX10_outAlternative_56 : decode cX10_outAlternative 56 = .ok (.aload_n 0, 1) := by decide +kernel
theorem dX10_outAlternative_57 : decode cX10_outAlternative 57 = .ok (.getfield 173, 3) := by decide +kernel
theorem dX10_outAlternative_60 : decode cX10_outAlternative 60 = .ok (.iconst 1, 1) := by decide +kernel
theorem dX10_outAlternative_61 : decode cX10_outAlternative 61 = .ok (.iadd, 1) := by decide +kernel
theorem dX10_outAlternative_62 : decode cX10_outAlternative 62 = .ok (.iload_n 3, 1) := by decide +kernel
theorem dX10_outAlternative_63 : decode cX10_outAlternative 63 = .ok (.bipush 10, 2) := by decide +kernel
theorem dX10_outAlternative_65 : decode cX10_outAlternative 65 = .ok (.if_icmp .ge 7, 3) := by decide +kernel
theorem dX10_outAlternative_68 : decode cX10_outAlternative 68 = .ok (.iload_n 3, 1) := by decide +kernel
theorem dX10_outAlternative_69 : decode cX10_outAlternative 69 = .ok (.goto 4, 3) := by decide +kernel
theorem dX10_outAlternative_72 : decode cX10_outAlternative 72 = .ok (.iconst 0, 1) := by decide +kernel
theorem dX10_outAlternative_73 : decode cX10_outAlternative 73 = .ok (.iadd, 1) := by decide +kernel
theorem dX10_outAlternative_74 : decode cX10_outAlternative 74 = .ok (.aload_n 0, 1) := by decide +kernel
theorem dX10_outAlternative_75 : decode cX10_outAlternative 75 = .ok (.getfield 173, 3) := by decide +kernel
theorem dX10_outAlternative_78 : decode cX10_outAlternative 78 = .ok (.iload_n 2, 1) := by decide +kernel
theorem dX10_outAlternative_79 : decode cX10_outAlternative 79 = .ok (.iadd, 1) := by decide +kernel
theorem dX10_outAlternative_80 : decode cX10_outAlternative 80 = .ok (.invokevirtual 245, 3) := by decide +kernel
theorem dX10_outAlternative_83 : decode cX10_outAlternative 83 = .ok (.return_, 1) := by decide +kernel
theorem dX10_outBase_0 : decode cX10_outBase 0 = .ok (.aload_n 0, 1) := by decide +kernel
theorem dX10_outBase_1 : decode cX10_outBase 1 = .ok (.iload_n 1, 1) := by decide +kernel
theorem dX10_outBase_2 : decode cX10_outBase 2 = .ok (.ifCond .ne 8, 3) := by decide +kernel
theorem dX10_outBase_5 : decode cX10_outBase 5 = .ok (.bipush 65, 2) := by decide +kernel
theorem dX10_outBase_7 : decode cX10_outBase 7 = .ok (.goto 25, 3) := by decide +kernel
theorem dX10_outBase_10 : decode cX10_outBase 10 = .ok (.iload_n 1, 1) := by decide +kernel
theorem dX10_outBase_11 : decode cX10_outBase 11 = .ok (.iconst 1, 1) := by decide +kernel
theorem dX10_outBase_12 : decode cX10_outBase 12 = .ok (.if_icmp .ne 8, 3) := by decide +kernel
theorem dX10_outBase_15 : decode cX10_outBase 15 = .ok (.bipush 67, 2) := by decide +kernel
theorem dX10_outBase_17 : decode cX10_outBase 17 = .ok (.goto 15, 3) := by decide +kernel
theorem dX10_outBase_20 : decode cX10_outBase 20 = .ok (.iload_n 1, 1) := by decide +kernel
theorem dX10_outBase_21 : decode cX10_outBase 21 = .ok (.iconst 2, 1) := by decide +kernel
theorem dX10_outBase_22 : decode cX10_outBase 22 = .ok (.if_icmp .ne 8, 3) := by decide +kernel
theorem dX10_outBase_25 : decode cX10_outBase 25 = .ok (.bipush 71, 2) := by decide +kernel
theorem dX10_outBase_27 : decode cX10_outBase 27 = .ok (.goto 5, 3) := by decide +kernel
theorem dX10_outBase_30 : decode cX10_outBase 30 = .ok (.bipush 84, 2) := by decide +kernel
theorem dX10_outBase_32 : decode cX10_outBase 32 = .ok (.invokevirtual 232, 3) := by decide +kernel
theorem dX10_outBase_35 : decode cX10_outBase 35 = .ok (.return_, 1) := by decide +kernel
theorem dX10_outBases_0 : decode cX10_outBases 0 = .ok (.iload_n 1, 1) := by decide +kernel
theorem dX10_outBases_1 : decode cX10_outBases 1 = .ok (.istore_n 3, 1) := by decide +kernel
theorem dX10_outBases_2 : decode cX10_outBases 2 = .ok (.iload_n 3, 1) := by decide +kernel
theorem dX10_outBases_3 : decode cX10_outBases 3 = .ok (.iload_n 2, 1) := by decide +kernel
theorem dX10_outBases_4 : decode cX10_outBases 4 = .ok (.if_icmp .gt 19, 3) := by decide +kernel
theorem dX10_outBases_7 : decode cX10_outBases 7 = .ok (.aload_n 0, 1) := by decide +kernel
theorem dX10_outBases_8 : decode cX10_outBases 8 = .ok (.aload_n 0, 1) := by decide +kernel
theorem dX10_outBases_9 : decode cX10_outBases 9 = .ok (.getfield 17, 3) := by decide +kernel
theorem dX10_outBases_12 : decode cX10_outBases 12 = .ok (.iload_n 3, 1) := by decide +kernel
theorem dX10_outBases_13 : decode cX10_outBases 13 = .ok (.iaload, 1) := by decide +kernel
theorem dX10_outBases_14 : decode cX10_outBases 14 = .ok (.invokevirtual 235, 3) := by decide +kernel
theorem dX10_outBases_17 : decode cX10_outBases 17 = .ok (.iinc 3 1, 3) := by decide +kernel
theorem dX10_outBases_20 : decode cX10_outBases 20 = .ok (.goto (-18), 3) := by decide +kernel
theorem dX10_outBases_23 : decode cX10_outBases 23 = .ok (.return_, 1) := by decide +kernel
theorem dX10_outGain_0 : decode cX10_outGain 0 = .ok (.iload_n 1, 1) := by decide +kernel
theorem dX10_outGain_1 : decode cX10_outGain 1 = .ok (.bipush 20, 2) := by decide +kernel
theorem dX10_outGain_3 : decode cX10_outGain 3 = .ok (.if_icmp .ge 7, 3) := by decide +kernel
theorem dX10_outGain_6 : decode cX10_outGain 6 = .ok (.iconst 1, 1) := by decide +kernel
theorem dX10_outGain_7 : decode cX10_outGain 7 = .ok (.goto 14, 3) := by decide +kernel
theorem dX10_outGain_10 : decode cX10_outGain 10 = .ok (.iload_n 1, 1) := by decide +kernel
theorem dX10_outGain_11 : decode cX10_outGain 11 = .ok (.bipush 40, 2) := by decide +kernel
theorem dX10_outGain_13 : decode cX10_outGain 13 = .ok (.if_icmp .ge 7, 3) := by decide +kernel
theorem dX10_outGain_16 : decode cX10_outGain 16 = .ok (.iconst 2, 1) := by decide +kernel
theorem dX10_outGain_17 : decode cX10_outGain 17 = .ok (.goto 4, 3) := by decide +kernel
theorem dX10_outGain_20 : decode cX10_outGain 20 = .ok (.iconst 3, 1) := by decide +kernel
theorem dX10_outGain_21 : decode cX10_outGain 21 = .ok (.istore_n 2, 1) := by decide +kernel
theorem dX10_outGain_22 : decode cX10_outGain 22 = .ok (.iload_n 1, 1) := by decide +kernel
theorem dX10_outGain_23 : decode cX10_outGain 23 = .ok (.iload_n 2, 1) := by decide +kernel
theorem dX10_outGain_24 : decode cX10_outGain 24 = .ok (.iconst 1, 1) := by decide +kernel
theorem dX10_outGain_25 : decode cX10_outGain 25 = .ok (.if_icmp .ne 8, 3) := by decide +kernel
theorem dX10_outGain_28 : decode cX10_outGain 28 = .ok (.bipush 10, 2) := by decide +kernel
theorem dX10_outGain_30 : decode cX10_outGain 30 = .ok (.goto 15, 3) := by decide +kernel
theorem dX10_outGain_33 : decode cX10_outGain 33 = .ok (.iload_n 2, 1) := by decide +kernel
theorem dX10_outGain_34 : decode cX10_outGain 34 = .ok (.iconst 2, 1) := by decide +kernel
theorem dX10_outGain_35 : decode cX10_outGain 35 = .ok (.if_icmp .ne 8, 3) := by decide +kernel
theorem dX10_outGain_38 : decode cX10_outGain 38 = .ok (.bipush 20, 2) := by decide +kernel
theorem dX10_outGain_40 : decode cX10_outGain 40 = .ok (.goto 5, 3) := by decide +kernel
theorem dX10_outGain_43 : decode cX10_outGain 43 = .ok (.bipush 40, 2) := by decide +kernel
theorem dX10_outGain_45 : decode cX10_outGain 45 = .ok (.isub, 1) := by decide +kernel
theorem dX10_outGain_46 : decode cX10_outGain 46 = .ok (.istore_n 3, 1) := by decide +kernel
theorem dX10_outGain_47 : decode cX10_outGain 47 = .ok (.iload_n 2, 1) := by decide +kernel
theorem dX10_outGain_48 : decode cX10_outGain 48 = .ok (.iconst 1, 1) := by decide +kernel
theorem dX10_outGain_49 : decode cX10_outGain 49 = .ok (.if_icmp .ne 7, 3) := by decide +kernel
theorem dX10_outGain_52 : decode cX10_outGain 52 = .ok (.iconst 1, 1) := by decide +kernel
theorem dX10_outGain_53 : decode cX10_outGain 53 = .ok (.goto 14, 3) := by decide +kernel
theorem dX10_outGain_56 : decode cX10_outGain 56 = .ok (.iload_n 2, 1) := by decide +kernel
theorem dX10_outGain_57 : decode cX10_outGain 57 = .ok (.iconst 2, 1) := by decide +kernel
theorem dX10_outGain_58 : decode cX10_outGain 58 = .ok (.if_icmp .ne 7, 3) := by decide +kernel
theorem dX10_outGain_61 : decode cX10_outGain 61 = .ok (.iconst 4, 1) := by decide +kernel
theorem dX10_outGain_62 : decode cX10_outGain 62 = .ok (.goto 5, 3) := by decide +kernel
theorem dX10_outGain_65 : decode cX10_outGain 65 = .ok (.bipush 16, 2) := by decide +kernel
theorem dX10_outGain_67 : decode cX10_outGain 67 = .ok (.istore 4, 2) := by decide +kernel
theorem dX10_outGain_69 : decode cX10_outGain 69 = .ok (.iload 4, 2) := by decide +kernel
theorem dX10_outGain_71 : decode cX10_outGain 71 = .ok (.ifCond .le 22, 3) := by decide +kernel
theorem dX10_outGain_74 : decode cX10_outGain 74 = .ok (.aload_n 0, 1) := by decide +kernel
theorem dX10_outGain_75 : decode cX10_outGain 75 = .ok (.iload_n 3, 1) := by decide +kernel
theorem dX10_outGain_76 : decode cX10_outGain 76 = .ok (.iload 4, 2) := by decide +kernel
theorem dX10_outGain_78 : decode cX10_outGain 78 = .ok (.idiv, 1) := by decide +kernel
theorem dX10_outGain_79 : decode cX10_outGain 79 = .ok (.iconst 4, 1) := by decide +kernel
theorem dX10_outGain_80 : decode cX10_outGain 80 = .ok (.irem, 1) := by decide +kernel
theorem dX10_outGain_81 : decode cX10_outGain 81 = .ok (.invokevirtual 235, 3) := by decide +kernel
theorem dX10_outGain_84 : decode cX10_outGain 84 = .ok (.iload 4, 2) := by decide +kernel
theorem dX10_outGain_86 : decode cX10_outGain 86 = .ok (.iconst 4, 1) := by decide +kernel
theorem dX10_outGain_87 : decode cX10_outGain 87 = .ok (.idiv, 1) := by decide +kernel
theorem dX10_outGain_88 : decode cX10_outGain 88 = .ok (.istore 4, 2) := by decide +kernel
theorem dX10_outGain_90 : decode cX10_outGain 90 = .ok (.goto (-21), 3) := by decide +kernel
theorem dX10_outGain_93 : decode cX10_outGain 93 = .ok (.return_, 1) := by decide +kernel

theorem dX10_reported_0 : decode cX10_reported 0 = .ok (.aload_n 0, 1) := by decide +kernel
theorem dX10_reported_1 : decode cX10_reported 1 = .ok (.iload_n 1, 1) := by decide +kernel
theorem dX10_reported_2 : decode cX10_reported 2 = .ok (.putfield 149, 3) := by decide +kernel
theorem dX10_reported_5 : decode cX10_reported 5 = .ok (.aload_n 0, 1) := by decide +kernel
theorem dX10_reported_6 : decode cX10_reported 6 = .ok (.iload_n 2, 1) := by decide +kernel
theorem dX10_reported_7 : decode cX10_reported 7 = .ok (.putfield 173, 3) := by decide +kernel
theorem dX10_reported_10 : decode cX10_reported 10 = .ok (.aload_n 0, 1) := by decide +kernel
theorem dX10_reported_11 : decode cX10_reported 11 = .ok (.iconst 0, 1) := by decide +kernel
theorem dX10_reported_12 : decode cX10_reported 12 = .ok (.putfield 179, 3) := by decide +kernel
theorem dX10_reported_15 : decode cX10_reported 15 = .ok (.iconst 0, 1) := by decide +kernel
theorem dX10_reported_16 : decode cX10_reported 16 = .ok (.istore_n 3, 1) := by decide +kernel
theorem dX10_reported_17 : decode cX10_reported 17 = .ok (.iload_n 3, 1) := by decide +kernel
theorem dX10_reported_18 : decode cX10_reported 18 = .ok (.bipush 104, 2) := by decide +kernel
theorem dX10_reported_20 : decode cX10_reported 20 = .ok (.if_icmp .ge 16, 3) := by decide +kernel
theorem dX10_reported_23 : decode cX10_reported 23 = .ok (.aload_n 0, 1) := by decide +kernel
theorem dX10_reported_24 : decode cX10_reported 24 = .ok (.getfield 83, 3) := by decide +kernel
theorem dX10_reported_27 : decode cX10_reported 27 = .ok (.iload_n 3, 1) := by decide +kernel
theorem dX10_reported_28 : decode cX10_reported 28 = .ok (.iconst 0, 1) := by decide +kernel
theorem dX10_reported_29 : decode cX10_reported 29 = .ok (.iastore, 1) := by decide +kernel
theorem dX10_reported_30 : decode cX10_reported 30 = .ok (.iinc 3 1, 3) := by decide +kernel
theorem dX10_reported_33 : decode cX10_reported 33 = .ok (.goto (-16), 3) := by decide +kernel
theorem dX10_reported_36 : decode cX10_reported 36 = .ok (.iconst 0, 1) := by decide +kernel
theorem dX10_reported_37 : decode cX10_reported 37 = .ok (.istore_n 3, 1) := by decide +kernel
theorem dX10_reported_38 : decode cX10_reported 38 = .ok (.iload_n 3, 1) := by decide +kernel
theorem dX10_reported_39 : decode cX10_reported 39 = .ok (.aload_n 0, 1) := by decide +kernel
theorem dX10_reported_40 : decode cX10_reported 40 = .ok (.invokevirtual 163, 3) := by decide +kernel
theorem dX10_reported_43 : decode cX10_reported 43 = .ok (.if_icmp .ge 42, 3) := by decide +kernel
theorem dX10_reported_46 : decode cX10_reported 46 = .ok (.aload_n 0, 1) := by decide +kernel
theorem dX10_reported_47 : decode cX10_reported 47 = .ok (.iload_n 3, 1) := by decide +kernel
theorem dX10_reported_48 : decode cX10_reported 48 = .ok (.invokevirtual 170, 3) := by decide +kernel
theorem dX10_reported_51 : decode cX10_reported 51 = .ok (.iload_n 2, 1) := by decide +kernel
theorem dX10_reported_52 : decode cX10_reported 52 = .ok (.if_icmp .ne 27, 3) := by decide +kernel
theorem dX10_reported_55 : decode cX10_reported 55 = .ok (.aload_n 0, 1) := by decide +kernel
theorem dX10_reported_56 : decode cX10_reported 56 = .ok (.getfield 83, 3) := by decide +kernel
theorem dX10_reported_59 : decode cX10_reported 59 = .ok (.aload_n 0, 1) := by decide +kernel
theorem dX10_reported_60 : decode cX10_reported 60 = .ok (.iload_n 3, 1) := by decide +kernel
theorem dX10_reported_61 : decode cX10_reported 61 = .ok (.invokevirtual 167, 3) := by decide +kernel
theorem dX10_reported_64 : decode cX10_reported 64 = .ok (.dup2, 1) := by decide +kernel
theorem dX10_reported_65 : decode cX10_reported 65 = .ok (.iaload, 1) := by decide +kernel
theorem dX10_reported_66 : decode cX10_reported 66 = .ok (.iconst 1, 1) := by decide +kernel
theorem dX10_reported_67 : decode cX10_reported 67 = .ok (.iadd, 1) := by decide +kernel
theorem dX10_reported_68 : decode cX10_reported 68 = .ok (.iastore, 1) := by decide +kernel
theorem dX10_reported_69 : decode cX10_reported 69 = .ok (.aload_n 0, 1) := by decide +kernel
theorem dX10_reported_70 : decode cX10_reported 70 = .ok (.dup, 1) := by decide +kernel
theorem dX10_reported_71 : decode cX10_reported 71 = .ok (.getfield 179, 3) := by decide +kernel
theorem dX10_reported_74 : decode cX10_reported 74 = .ok (.iconst 1, 1) := by decide +kernel
theorem dX10_reported_75 : decode cX10_reported 75 = .ok (.iadd, 1) := by decide +kernel
theorem dX10_reported_76 : decode cX10_reported 76 = .ok (.putfield 179, 3) := by decide +kernel
theorem dX10_reported_79 : decode cX10_reported 79 = .ok (.iinc 3 1, 3) := by decide +kernel
theorem dX10_reported_82 : decode cX10_reported 82 = .ok (.goto (-44), 3) := by decide +kernel
theorem dX10_reported_85 : decode cX10_reported 85 = .ok (.aload_n 0, 1) := by decide +kernel
theorem dX10_reported_86 : decode cX10_reported 86 = .ok (.getfield 80, 3) := by decide +kernel
theorem dX10_reported_89 : decode cX10_reported 89 = .ok (.iconst 0, 1) := by decide +kernel
theorem dX10_reported_90 : decode cX10_reported 90 = .ok (.iload_n 1, 1) := by decide +kernel
theorem dX10_reported_91 : decode cX10_reported 91 = .ok (.ifCond .eq 7, 3) := by decide +kernel
theorem dX10_reported_94 : decode cX10_reported 94 = .ok (.iconst 0, 1) := by decide +kernel
theorem dX10_reported_95 : decode cX10_reported 95 = .ok (.goto 9, 3) := by decide +kernel
theorem dX10_reported_98 : decode cX10_reported 98 = .ok (.aload_n 0, 1) := by decide +kernel
theorem dX10_reported_99 : decode cX10_reported 99 = .ok (.getfield 17, 3) := by decide +kernel
theorem dX10_reported_102 : decode cX10_reported 102 = .ok (.iload_n 2, 1) := by decide +kernel
theorem dX10_reported_103 : decode cX10_reported 103 = .ok (.iaload, 1) := by decide +kernel
theorem dX10_reported_104 : decode cX10_reported 104 = .ok (.iastore, 1) := by decide +kernel
theorem dX10_reported_105 : decode cX10_reported 105 = .ok (.aload_n 0, 1) := by decide +kernel
theorem dX10_reported_106 : decode cX10_reported 106 = .ok (.iconst 1, 1) := by decide +kernel
theorem dX10_reported_107 : decode cX10_reported 107 = .ok (.putfield 153, 3) := by decide +kernel
theorem dX10_reported_110 : decode cX10_reported 110 = .ok (.aload_n 0, 1) := by decide +kernel
theorem dX10_reported_111 : decode cX10_reported 111 = .ok (.invokevirtual 182, 3) := by decide +kernel
theorem dX10_reported_114 : decode cX10_reported 114 = .ok (.aload_n 0, 1) := by decide +kernel
theorem dX10_reported_115 : decode cX10_reported 115 = .ok (.invokevirtual 182, 3) := by decide +kernel
theorem dX10_reported_118 : decode cX10_reported 118 = .ok (.aload_n 0, 1) := by decide +kernel
theorem dX10_reported_119 : decode cX10_reported 119 = .ok (.aload_n 0, 1) := by decide +kernel
theorem dX10_reported_120 : decode cX10_reported 120 = .ok (.getfield 153, 3) := by decide +kernel
theorem dX10_reported_123 : decode cX10_reported 123 = .ok (.iconst 1, 1) := by decide +kernel
theorem dX10_reported_124 : decode cX10_reported 124 = .ok (.if_icmp .ne 7, 3) := by decide +kernel
theorem dX10_reported_127 : decode cX10_reported 127 = .ok (.iconst 1, 1) := by decide +kernel
theorem dX10_reported_128 : decode cX10_reported 128 = .ok (.goto 17, 3) := by decide +kernel
theorem dX10_reported_131 : decode cX10_reported 131 = .ok (.aload_n 0, 1) := by decide +kernel
theorem dX10_reported_132 : decode cX10_reported 132 = .ok (.getfield 153, 3) := by decide +kernel
theorem dX10_reported_135 : decode cX10_reported 135 = .ok (.iconst 2, 1) := by decide +kernel
theorem dX10_reported_136 : decode cX10_reported 136 = .ok (.if_icmp .ne 7, 3) := by decide +kernel
theorem dX10_reported_139 : decode cX10_reported 139 = .ok (.iconst 3, 1) := by decide +kernel
theorem dX10_reported_140 : decode cX10_reported 140 = .ok (.goto 5, 3) := by decide +kernel
theorem dX10_reported_143 : decode cX10_reported 143 = .ok (.bipush 6, 2) := by decide +kernel
theorem dX10_reported_145 : decode cX10_reported 145 = .ok (.putfield 185, 3) := by decide +kernel
theorem dX10_reported_148 : decode cX10_reported 148 = .ok (.aload_n 0, 1) := by decide +kernel
theorem dX10_reported_149 : decode cX10_reported 149 = .ok (.iconst 0, 1) := by decide +kernel
theorem dX10_reported_150 : decode cX10_reported 150 = .ok (.putfield 188, 3) := by decide +kernel
theorem dX10_reported_153 : decode cX10_reported 153 = .ok (.iconst 0, 1) := by decide +kernel
theorem dX10_reported_154 : decode cX10_reported 154 = .ok (.istore_n 3, 1) := by decide +kernel
theorem dX10_reported_155 : decode cX10_reported 155 = .ok (.iload_n 3, 1) := by decide +kernel
theorem dX10_reported_156 : decode cX10_reported 156 = .ok (.aload_n 0, 1) := by decide +kernel
theorem dX10_reported_157 : decode cX10_reported 157 = .ok (.getfield 185, 3) := by decide +kernel
theorem dX10_reported_160 : decode cX10_reported 160 = .ok (.if_icmp .ge 50, 3) := by decide +kernel
theorem dX10_reported_163 : decode cX10_reported 163 = .ok (.aload_n 0, 1) := by decide +kernel
theorem dX10_reported_164 : decode cX10_reported 164 = .ok (.getfield 86, 3) := by decide +kernel
theorem dX10_reported_167 : decode cX10_reported 167 = .ok (.iload_n 3, 1) := by decide +kernel
theorem dX10_reported_168 : decode cX10_reported 168 = .ok (.aload_n 0, 1) := by decide +kernel
theorem dX10_reported_169 : decode cX10_reported 169 = .ok (.iload_n 3, 1) := by decide +kernel
theorem dX10_reported_170 : decode cX10_reported 170 = .ok (.invokevirtual 191, 3) := by decide +kernel
theorem dX10_reported_173 : decode cX10_reported 173 = .ok (.iastore, 1) := by decide +kernel
theorem dX10_reported_174 : decode cX10_reported 174 = .ok (.aload_n 0, 1) := by decide +kernel
theorem dX10_reported_175 : decode cX10_reported 175 = .ok (.aload_n 0, 1) := by decide +kernel
theorem dX10_reported_176 : decode cX10_reported 176 = .ok (.getfield 86, 3) := by decide +kernel
theorem dX10_reported_179 : decode cX10_reported 179 = .ok (.iload_n 3, 1) := by decide +kernel
theorem dX10_reported_180 : decode cX10_reported 180 = .ok (.iaload, 1) := by decide +kernel
theorem dX10_reported_181 : decode cX10_reported 181 = .ok (.aload_n 0, 1) := by decide +kernel
theorem dX10_reported_182 : decode cX10_reported 182 = .ok (.getfield 86, 3) := by decide +kernel
theorem dX10_reported_185 : decode cX10_reported 185 = .ok (.aload_n 0, 1) := by decide +kernel
theorem dX10_reported_186 : decode cX10_reported 186 = .ok (.getfield 188, 3) := by decide +kernel
theorem dX10_reported_189 : decode cX10_reported 189 = .ok (.iaload, 1) := by decide +kernel
theorem dX10_reported_190 : decode cX10_reported 190 = .ok (.if_icmp .ge 7, 3) := by decide +kernel
theorem dX10_reported_193 : decode cX10_reported 193 = .ok (.iload_n 3, 1) := by decide +kernel
theorem dX10_reported_194 : decode cX10_reported 194 = .ok (.goto 7, 3) := by decide +kernel
theorem dX10_reported_197 : decode cX10_reported 197 = .ok (.aload_n 0, 1) := by decide +kernel
theorem dX10_reported_198 : decode cX10_reported 198 = .ok (.getfield 188, 3) := by decide +kernel
theorem dX10_reported_201 : decode cX10_reported 201 = .ok (.putfield 188, 3) := by decide +kernel
theorem dX10_reported_204 : decode cX10_reported 204 = .ok (.iinc 3 1, 3) := by decide +kernel
theorem dX10_reported_207 : decode cX10_reported 207 = .ok (.goto (-52), 3) := by decide +kernel
theorem dX10_reported_210 : decode cX10_reported 210 = .ok (.aload_n 0, 1) := by decide +kernel
theorem dX10_reported_211 : decode cX10_reported 211 = .ok (.getfield 188, 3) := by decide +kernel
theorem dX10_reported_214 : decode cX10_reported 214 = .ok (.ifCond .le 7, 3) := by decide +kernel
theorem dX10_reported_217 : decode cX10_reported 217 = .ok (.iconst 1, 1) := by decide +kernel
theorem dX10_reported_218 : decode cX10_reported 218 = .ok (.goto 4, 3) := by decide +kernel
theorem dX10_reported_221 : decode cX10_reported 221 = .ok (.iconst 0, 1) := by decide +kernel
theorem dX10_reported_222 : decode cX10_reported 222 = .ok (.ireturn, 1) := by decide +kernel
theorem dX10_script_0 : decode cX10_script 0 = .ok (.aload_n 0, 1) := by decide +kernel
theorem dX10_script_1 : decode cX10_script 1 = .ok (.iload_n 1, 1) := by decide +kernel
theorem dX10_script_2 : decode cX10_script 2 = .ok (.aload_n 0, 1) := by decide +kernel
theorem dX10_script_3 : decode cX10_script 3 = .ok (.getfield 44, 3) := by decide +kernel
theorem dX10_script_6 : decode cX10_script 6 = .ok (.iload_n 1, 1) := by decide +kernel
theorem dX10_script_7 : decode cX10_script 7 = .ok (.iaload, 1) := by decide +kernel
theorem dX10_script_8 : decode cX10_script 8 = .ok (.invokevirtual 126, 3) := by decide +kernel
theorem dX10_script_11 : decode cX10_script 11 = .ok (.aload_n 0, 1) := by decide +kernel
theorem dX10_script_12 : decode cX10_script 12 = .ok (.aload_n 0, 1) := by decide +kernel
theorem dX10_script_13 : decode cX10_script 13 = .ok (.getfield 23, 3) := by decide +kernel
theorem dX10_script_16 : decode cX10_script 16 = .ok (.iload_n 1, 1) := by decide +kernel
theorem dX10_script_17 : decode cX10_script 17 = .ok (.iaload, 1) := by decide +kernel
theorem dX10_script_18 : decode cX10_script 18 = .ok (.aload_n 0, 1) := by decide +kernel
theorem dX10_script_19 : decode cX10_script 19 = .ok (.getfield 35, 3) := by decide +kernel
theorem dX10_script_22 : decode cX10_script 22 = .ok (.iload_n 1, 1) := by decide +kernel
theorem dX10_script_23 : decode cX10_script 23 = .ok (.iaload, 1) := by decide +kernel
theorem dX10_script_24 : decode cX10_script 24 = .ok (.invokevirtual 130, 3) := by decide +kernel
theorem dX10_script_27 : decode cX10_script 27 = .ok (.pop, 1) := by decide +kernel
theorem dX10_script_28 : decode cX10_script 28 = .ok (.aload_n 0, 1) := by decide +kernel
theorem dX10_script_29 : decode cX10_script 29 = .ok (.getfield 23, 3) := by decide +kernel
theorem dX10_script_32 : decode cX10_script 32 = .ok (.iload_n 1, 1) := by decide +kernel
theorem dX10_script_33 : decode cX10_script 33 = .ok (.iaload, 1) := by decide +kernel
theorem dX10_script_34 : decode cX10_script 34 = .ok (.istore_n 2, 1) := by decide +kernel
theorem dX10_script_35 : decode cX10_script 35 = .ok (.aload_n 0, 1) := by decide +kernel
theorem dX10_script_36 : decode cX10_script 36 = .ok (.getfield 38, 3) := by decide +kernel
theorem dX10_script_39 : decode cX10_script 39 = .ok (.iload_n 1, 1) := by decide +kernel
theorem dX10_script_40 : decode cX10_script 40 = .ok (.iaload, 1) := by decide +kernel
theorem dX10_script_41 : decode cX10_script 41 = .ok (.aload_n 0, 1) := by decide +kernel
theorem dX10_script_42 : decode cX10_script 42 = .ok (.getfield 35, 3) := by decide +kernel
theorem dX10_script_45 : decode cX10_script 45 = .ok (.iload_n 1, 1) := by decide +kernel
theorem dX10_script_46 : decode cX10_script 46 = .ok (.iaload, 1) := by decide +kernel
theorem dX10_script_47 : decode cX10_script 47 = .ok (.isub, 1) := by decide +kernel
theorem dX10_script_48 : decode cX10_script 48 = .ok (.istore_n 3, 1) := by decide +kernel
theorem dX10_script_49 : decode cX10_script 49 = .ok (.iconst 0, 1) := by decide +kernel
theorem dX10_script_50 : decode cX10_script 50 = .ok (.istore 4, 2) := by decide +kernel
theorem dX10_script_52 : decode cX10_script 52 = .ok (.iload_n 2, 1) := by decide +kernel
theorem dX10_script_53 : decode cX10_script 53 = .ok (.ifCond .gt 7, 3) := by decide +kernel
theorem dX10_script_56 : decode cX10_script 56 = .ok (.iload_n 3, 1) := by decide +kernel
theorem dX10_script_57 : decode cX10_script 57 = .ok (.ifCond .le 188, 3) := by decide +kernel
theorem dX10_script_60 : decode cX10_script 60 = .ok (.aload_n 0, 1) := by decide +kernel
theorem dX10_script_61 : decode cX10_script 61 = .ok (.getfield 59, 3) := by decide +kernel
theorem dX10_script_64 : decode cX10_script 64 = .ok (.bipush 20, 2) := by decide +kernel
theorem dX10_script_66 : decode cX10_script 66 = .ok (.iload_n 2, 1) := by decide +kernel
theorem dX10_script_67 : decode cX10_script 67 = .ok (.imul, 1) := by decide +kernel
theorem dX10_script_68 : decode cX10_script 68 = .ok (.iload_n 3, 1) := by decide +kernel
theorem dX10_script_69 : decode cX10_script 69 = .ok (.iadd, 1) := by decide +kernel
theorem dX10_script_70 : decode cX10_script 70 = .ok (.iaload, 1) := by decide +kernel
theorem dX10_script_71 : decode cX10_script 71 = .ok (.istore 5, 2) := by decide +kernel
theorem dX10_script_73 : decode cX10_script 73 = .ok (.iload_n 2, 1) := by decide +kernel
theorem dX10_script_74 : decode cX10_script 74 = .ok (.ifCond .le 64, 3) := by decide +kernel
theorem dX10_script_77 : decode cX10_script 77 = .ok (.iload_n 3, 1) := by decide +kernel
theorem dX10_script_78 : decode cX10_script 78 = .ok (.ifCond .le 60, 3) := by decide +kernel
theorem dX10_script_81 : decode cX10_script 81 = .ok (.iload 5, 2) := by decide +kernel
theorem dX10_script_83 : decode cX10_script 83 = .ok (.aload_n 0, 1) := by decide +kernel
theorem dX10_script_84 : decode cX10_script 84 = .ok (.getfield 59, 3) := by decide +kernel
theorem dX10_script_87 : decode cX10_script 87 = .ok (.bipush 20, 2) := by decide +kernel
theorem dX10_script_89 : decode cX10_script 89 = .ok (.iload_n 2, 1) := by decide +kernel
theorem dX10_script_90 : decode cX10_script 90 = .ok (.imul, 1) := by decide +kernel
theorem dX10_script_91 : decode cX10_script 91 = .ok (.bipush 20, 2) := by decide +kernel
theorem dX10_script_93 : decode cX10_script 93 = .ok (.isub, 1) := by decide +kernel
theorem dX10_script_94 : decode cX10_script 94 = .ok (.iload_n 3, 1) := by decide +kernel
theorem dX10_script_95 : decode cX10_script 95 = .ok (.iadd, 1) := by decide +kernel
theorem dX10_script_96 : decode cX10_script 96 = .ok (.iconst 1, 1) := by decide +kernel
theorem dX10_script_97 : decode cX10_script 97 = .ok (.isub, 1) := by decide +kernel
theorem dX10_script_98 : decode cX10_script 98 = .ok (.iaload, 1) := by decide +kernel
theorem dX10_script_99 : decode cX10_script 99 = .ok (.aload_n 0, 1) := by decide +kernel
theorem dX10_script_100 : decode cX10_script 100 = .ok (.getfield 53, 3) := by decide +kernel
theorem dX10_script_103 : decode cX10_script 103 = .ok (.iload_n 2, 1) := by decide +kernel
theorem dX10_script_104 : decode cX10_script 104 = .ok (.iconst 1, 1) := by decide +kernel
theorem dX10_script_105 : decode cX10_script 105 = .ok (.isub, 1) := by decide +kernel
theorem dX10_script_106 : decode cX10_script 106 = .ok (.iaload, 1) := by decide +kernel
theorem dX10_script_107 : decode cX10_script 107 = .ok (.aload_n 0, 1) := by decide +kernel
theorem dX10_script_108 : decode cX10_script 108 = .ok (.getfield 17, 3) := by decide +kernel
theorem dX10_script_111 : decode cX10_script 111 = .ok (.aload_n 0, 1) := by decide +kernel
theorem dX10_script_112 : decode cX10_script 112 = .ok (.getfield 35, 3) := by decide +kernel
theorem dX10_script_115 : decode cX10_script 115 = .ok (.iload_n 1, 1) := by decide +kernel
theorem dX10_script_116 : decode cX10_script 116 = .ok (.iaload, 1) := by decide +kernel
theorem dX10_script_117 : decode cX10_script 117 = .ok (.iload_n 3, 1) := by decide +kernel
theorem dX10_script_118 : decode cX10_script 118 = .ok (.iadd, 1) := by decide +kernel
theorem dX10_script_119 : decode cX10_script 119 = .ok (.iconst 1, 1) := by decide +kernel
theorem dX10_script_120 : decode cX10_script 120 = .ok (.isub, 1) := by decide +kernel
theorem dX10_script_121 : decode cX10_script 121 = .ok (.iaload, 1) := by decide +kernel
theorem dX10_script_122 : decode cX10_script 122 = .ok (.if_icmp .ne 7, 3) := by decide +kernel
theorem dX10_script_125 : decode cX10_script 125 = .ok (.iconst 0, 1) := by decide +kernel
theorem dX10_script_126 : decode cX10_script 126 = .ok (.goto 4, 3) := by decide +kernel
theorem dX10_script_129 : decode cX10_script 129 = .ok (.iconst 1, 1) := by decide +kernel
theorem dX10_script_130 : decode cX10_script 130 = .ok (.iadd, 1) := by decide +kernel
theorem dX10_script_131 : decode cX10_script 131 = .ok (.if_icmp .ne 7, 3) := by decide +kernel
theorem dX10_script_134 : decode cX10_script 134 = .ok (.iconst 1, 1) := by decide +kernel
theorem dX10_script_135 : decode cX10_script 135 = .ok (.goto 4, 3) := by decide +kernel
theorem dX10_script_138 : decode cX10_script 138 = .ok (.iconst 0, 1) := by decide +kernel
theorem dX10_script_139 : decode cX10_script 139 = .ok (.istore 6, 2) := by decide +kernel
theorem dX10_script_141 : decode cX10_script 141 = .ok (.iload 6, 2) := by decide +kernel
theorem dX10_script_143 : decode cX10_script 143 = .ok (.ifCond .ne 31, 3) := by decide +kernel
theorem dX10_script_146 : decode cX10_script 146 = .ok (.iload_n 3, 1) := by decide +kernel
theorem dX10_script_147 : decode cX10_script 147 = .ok (.ifCond .le 27, 3) := by decide +kernel
theorem dX10_script_150 : decode cX10_script 150 = .ok (.iload 5, 2) := by decide +kernel
theorem dX10_script_152 : decode cX10_script 152 = .ok (.aload_n 0, 1) := by decide +kernel
theorem dX10_script_153 : decode cX10_script 153 = .ok (.getfield 59, 3) := by decide +kernel
theorem dX10_script_156 : decode cX10_script 156 = .ok (.bipush 20, 2) := by decide +kernel
theorem dX10_script_158 : decode cX10_script 158 = .ok (.iload_n 2, 1) := by decide +kernel
theorem dX10_script_159 : decode cX10_script 159 = .ok (.imul, 1) := by decide +kernel
theorem dX10_script_160 : decode cX10_script 160 = .ok (.iload_n 3, 1) := by decide +kernel
theorem dX10_script_161 : decode cX10_script 161 = .ok (.iadd, 1) := by decide +kernel
theorem dX10_script_162 : decode cX10_script 162 = .ok (.iconst 1, 1) := by decide +kernel
theorem dX10_script_163 : decode cX10_script 163 = .ok (.isub, 1) := by decide +kernel
theorem dX10_script_164 : decode cX10_script 164 = .ok (.iaload, 1) := by decide +kernel
theorem dX10_script_165 : decode cX10_script 165 = .ok (.iconst 1, 1) := by decide +kernel
theorem dX10_script_166 : decode cX10_script 166 = .ok (.iadd, 1) := by decide +kernel
theorem dX10_script_167 : decode cX10_script 167 = .ok (.if_icmp .ne 7, 3) := by decide +kernel
theorem dX10_script_170 : decode cX10_script 170 = .ok (.iconst 1, 1) := by decide +kernel
theorem dX10_script_171 : decode cX10_script 171 = .ok (.goto 4, 3) := by decide +kernel
theorem dX10_script_174 : decode cX10_script 174 = .ok (.iconst 0, 1) := by decide +kernel
theorem dX10_script_175 : decode cX10_script 175 = .ok (.istore 7, 2) := by decide +kernel
theorem dX10_script_177 : decode cX10_script 177 = .ok (.aload_n 0, 1) := by decide +kernel
theorem dX10_script_178 : decode cX10_script 178 = .ok (.getfield 50, 3) := by decide +kernel
theorem dX10_script_181 : decode cX10_script 181 = .ok (.bipush 40, 2) := by decide +kernel
theorem dX10_script_183 : decode cX10_script 183 = .ok (.iload_n 1, 1) := by decide +kernel
theorem dX10_script_184 : decode cX10_script 184 = .ok (.imul, 1) := by decide +kernel
theorem dX10_script_185 : decode cX10_script 185 = .ok (.iload 4, 2) := by decide +kernel
theorem dX10_script_187 : decode cX10_script 187 = .ok (.iadd, 1) := by decide +kernel
theorem dX10_script_188 : decode cX10_script 188 = .ok (.iload 6, 2) := by decide +kernel
theorem dX10_script_190 : decode cX10_script 190 = .ok (.ifCond .eq 7, 3) := by decide +kernel
theorem dX10_script_193 : decode cX10_script 193 = .ok (.iconst 1, 1) := by decide +kernel
theorem dX10_script_194 : decode cX10_script 194 = .ok (.goto 13, 3) := by decide +kernel
theorem dX10_script_197 : decode cX10_script 197 = .ok (.iload 7, 2) := by decide +kernel
theorem dX10_script_199 : decode cX10_script 199 = .ok (.ifCond .eq 7, 3) := by decide +kernel
theorem dX10_script_202 : decode cX10_script 202 = .ok (.iconst 2, 1) := by decide +kernel
theorem dX10_script_203 : decode cX10_script 203 = .ok (.goto 4, 3) := by decide +kernel
theorem dX10_script_206 : decode cX10_script 206 = .ok (.iconst 3, 1) := by decide +kernel
theorem dX10_script_207 : decode cX10_script 207 = .ok (.iastore, 1) := by decide +kernel
theorem dX10_script_208 : decode cX10_script 208 = .ok (.iinc 4 1, 3) := by decide +kernel
theorem dX10_script_211 : decode cX10_script 211 = .ok (.iload 7, 2) := by decide +kernel
theorem dX10_script_213 : decode cX10_script 213 = .ok (.ifCond .eq 7, 3) := by decide +kernel
theorem dX10_script_216 : decode cX10_script 216 = .ok (.iload_n 2, 1) := by decide +kernel
theorem dX10_script_217 : decode cX10_script 217 = .ok (.goto 6, 3) := by decide +kernel
theorem dX10_script_220 : decode cX10_script 220 = .ok (.iload_n 2, 1) := by decide +kernel
theorem dX10_script_221 : decode cX10_script 221 = .ok (.iconst 1, 1) := by decide +kernel
theorem dX10_script_222 : decode cX10_script 222 = .ok (.isub, 1) := by decide +kernel
theorem dX10_script_223 : decode cX10_script 223 = .ok (.istore_n 2, 1) := by decide +kernel
theorem dX10_script_224 : decode cX10_script 224 = .ok (.iload 6, 2) := by decide +kernel
theorem dX10_script_226 : decode cX10_script 226 = .ok (.ifCond .ne 8, 3) := by decide +kernel
theorem dX10_script_229 : decode cX10_script 229 = .ok (.iload 7, 2) := by decide +kernel
theorem dX10_script_231 : decode cX10_script 231 = .ok (.ifCond .eq 9, 3) := by decide +kernel
theorem dX10_script_234 : decode cX10_script 234 = .ok (.iload_n 3, 1) := by decide +kernel
theorem dX10_script_235 : decode cX10_script 235 = .ok (.iconst 1, 1) := by decide +kernel
theorem dX10_script_236 : decode cX10_script 236 = .ok (.isub, 1) := by decide +kernel
theorem dX10_script_237 : decode cX10_script 237 = .ok (.goto 4, 3) := by decide +kernel
theorem dX10_script_240 : decode cX10_script 240 = .ok (.iload_n 3, 1) := by decide +kernel
theorem dX10_script_241 : decode cX10_script 241 = .ok (.istore_n 3, 1) := by decide +kernel
theorem dX10_script_242 : decode cX10_script 242 = .ok (.goto (-190), 3) := by decide +kernel
theorem dX10_script_245 : decode cX10_script 245 = .ok (.aload_n 0, 1) := by decide +kernel
theorem dX10_script_246 : decode cX10_script 246 = .ok (.getfield 47, 3) := by decide +kernel
theorem dX10_script_249 : decode cX10_script 249 = .ok (.iload_n 1, 1) := by decide +kernel
theorem dX10_script_250 : decode cX10_script 250 = .ok (.iload 4, 2) := by decide +kernel
theorem dX10_script_252 : decode cX10_script 252 = .ok (.iastore, 1) := by decide +kernel
theorem dX10_script_253 : decode cX10_script 253 = .ok (.iconst 0, 1) := by decide +kernel
theorem dX10_script_254 : decode cX10_script 254 = .ok (.istore 5, 2) := by decide +kernel
theorem dX10_script_256 : decode cX10_script 256 = .ok (.iload 5, 2) := by decide +kernel
theorem dX10_script_258 : decode cX10_script 258 = .ok (.iload 4, 2) := by decide +kernel
theorem dX10_script_260 : decode cX10_script 260 = .ok (.iconst 2, 1) := by decide +kernel
theorem dX10_script_261 : decode cX10_script 261 = .ok (.idiv, 1) := by decide +kernel
theorem dX10_script_262 : decode cX10_script 262 = .ok (.if_icmp .ge 71, 3) := by decide +kernel
theorem dX10_script_265 : decode cX10_script 265 = .ok (.aload_n 0, 1) := by decide +kernel
theorem dX10_script_266 : decode cX10_script 266 = .ok (.getfield 50, 3) := by decide +kernel
theorem dX10_script_269 : decode cX10_script 269 = .ok (.bipush 40, 2) := by decide +kernel
theorem dX10_script_271 : decode cX10_script 271 = .ok (.iload_n 1, 1) := by decide +kernel
theorem dX10_script_272 : decode cX10_script 272 = .ok (.imul, 1) := by decide +kernel
theorem dX10_script_273 : decode cX10_script 273 = .ok (.iload 5, 2) := by decide +kernel
theorem dX10_script_275 : decode cX10_script 275 = .ok (.iadd, 1) := by decide +kernel
theorem dX10_script_276 : decode cX10_script 276 = .ok (.iaload, 1) := by decide +kernel
theorem dX10_script_277 : decode cX10_script 277 = .ok (.istore 6, 2) := by decide +kernel
theorem dX10_script_279 : decode cX10_script 279 = .ok (.aload_n 0, 1) := by decide +kernel
theorem dX10_script_280 : decode cX10_script 280 = .ok (.getfield 50, 3) := by decide +kernel
theorem dX10_script_283 : decode cX10_script 283 = .ok (.bipush 40, 2) := by decide +kernel
theorem dX10_script_285 : decode cX10_script 285 = .ok (.iload_n 1, 1) := by decide +kernel
theorem dX10_script_286 : decode cX10_script 286 = .ok (.imul, 1) := by decide +kernel
theorem dX10_script_287 : decode cX10_script 287 = .ok (.iload 5, 2) := by decide +kernel
theorem dX10_script_289 : decode cX10_script 289 = .ok (.iadd, 1) := by decide +kernel
theorem dX10_script_290 : decode cX10_script 290 = .ok (.aload_n 0, 1) := by decide +kernel
theorem dX10_script_291 : decode cX10_script 291 = .ok (.getfield 50, 3) := by decide +kernel
theorem dX10_script_294 : decode cX10_script 294 = .ok (.bipush 40, 2) := by decide +kernel
theorem dX10_script_296 : decode cX10_script 296 = .ok (.iload_n 1, 1) := by decide +kernel
theorem dX10_script_297 : decode cX10_script 297 = .ok (.imul, 1) := by decide +kernel
theorem dX10_script_298 : decode cX10_script 298 = .ok (.iload 4, 2) := by decide +kernel
theorem dX10_script_300 : decode cX10_script 300 = .ok (.iadd, 1) := by decide +kernel
theorem dX10_script_301 : decode cX10_script 301 = .ok (.iconst 1, 1) := by decide +kernel
theorem dX10_script_302 : decode cX10_script 302 = .ok (.isub, 1) := by decide +kernel
theorem dX10_script_303 : decode cX10_script 303 = .ok (.iload 5, 2) := by decide +kernel
theorem dX10_script_305 : decode cX10_script 305 = .ok (.isub, 1) := by decide +kernel
theorem dX10_script_306 : decode cX10_script 306 = .ok (.iaload, 1) := by decide +kernel
theorem dX10_script_307 : decode cX10_script 307 = .ok (.iastore, 1) := by decide +kernel
theorem dX10_script_308 : decode cX10_script 308 = .ok (.aload_n 0, 1) := by decide +kernel
theorem dX10_script_309 : decode cX10_script 309 = .ok (.getfield 50, 3) := by decide +kernel
theorem dX10_script_312 : decode cX10_script 312 = .ok (.bipush 40, 2) := by decide +kernel
theorem dX10_script_314 : decode cX10_script 314 = .ok (.iload_n 1, 1) := by decide +kernel
theorem dX10_script_315 : decode cX10_script 315 = .ok (.imul, 1) := by decide +kernel
theorem dX10_script_316 : decode cX10_script 316 = .ok (.iload 4, 2) := by decide +kernel
theorem dX10_script_318 : decode cX10_script 318 = .ok (.iadd, 1) := by decide +kernel
theorem dX10_script_319 : decode cX10_script 319 = .ok (.iconst 1, 1) := by decide +kernel
theorem dX10_script_320 : decode cX10_script 320 = .ok (.isub, 1) := by decide +kernel
theorem dX10_script_321 : decode cX10_script 321 = .ok (.iload 5, 2) := by decide +kernel
theorem dX10_script_323 : decode cX10_script 323 = .ok (.isub, 1) := by decide +kernel
theorem dX10_script_324 : decode cX10_script 324 = .ok (.iload 6, 2) := by decide +kernel
theorem dX10_script_326 : decode cX10_script 326 = .ok (.iastore, 1) := by decide +kernel
theorem dX10_script_327 : decode cX10_script 327 = .ok (.iinc 5 1, 3) := by decide +kernel
theorem dX10_script_330 : decode cX10_script 330 = .ok (.goto (-74), 3) := by decide +kernel
theorem dX10_script_333 : decode cX10_script 333 = .ok (.return_, 1) := by decide +kernel
theorem dX10_secondOf_0 : decode cX10_secondOf 0 = .ok (.iload_n 0, 1) := by decide +kernel
theorem dX10_secondOf_1 : decode cX10_secondOf 1 = .ok (.ifCond .ne 7, 3) := by decide +kernel
theorem dX10_secondOf_4 : decode cX10_secondOf 4 = .ok (.iconst 0, 1) := by decide +kernel
theorem dX10_secondOf_5 : decode cX10_secondOf 5 = .ok (.goto 13, 3) := by decide +kernel
theorem dX10_secondOf_8 : decode cX10_secondOf 8 = .ok (.iload_n 0, 1) := by decide +kernel
theorem dX10_secondOf_9 : decode cX10_secondOf 9 = .ok (.iconst 3, 1) := by decide +kernel
theorem dX10_secondOf_10 : decode cX10_secondOf 10 = .ok (.if_icmp .ge 7, 3) := by decide +kernel
theorem dX10_secondOf_13 : decode cX10_secondOf 13 = .ok (.iconst 1, 1) := by decide +kernel
theorem dX10_secondOf_14 : decode cX10_secondOf 14 = .ok (.goto 4, 3) := by decide +kernel
theorem dX10_secondOf_17 : decode cX10_secondOf 17 = .ok (.iconst 2, 1) := by decide +kernel
theorem dX10_secondOf_18 : decode cX10_secondOf 18 = .ok (.ireturn, 1) := by decide +kernel
theorem dX10_seeBase_0 : decode cX10_seeBase 0 = .ok (.aload_n 0, 1) := by decide +kernel
theorem dX10_seeBase_1 : decode cX10_seeBase 1 = .ok (.getfield 62, 3) := by decide +kernel
theorem dX10_seeBase_4 : decode cX10_seeBase 4 = .ok (.aload_n 0, 1) := by decide +kernel
theorem dX10_seeBase_5 : decode cX10_seeBase 5 = .ok (.getfield 146, 3) := by decide +kernel
theorem dX10_seeBase_8 : decode cX10_seeBase 8 = .ok (.iload_n 1, 1) := by decide +kernel
theorem dX10_seeBase_9 : decode cX10_seeBase 9 = .ok (.iastore, 1) := by decide +kernel
theorem dX10_seeBase_10 : decode cX10_seeBase 10 = .ok (.aload_n 0, 1) := by decide +kernel
theorem dX10_seeBase_11 : decode cX10_seeBase 11 = .ok (.getfield 65, 3) := by decide +kernel
theorem dX10_seeBase_14 : decode cX10_seeBase 14 = .ok (.aload_n 0, 1) := by decide +kernel
theorem dX10_seeBase_15 : decode cX10_seeBase 15 = .ok (.getfield 146, 3) := by decide +kernel
theorem dX10_seeBase_18 : decode cX10_seeBase 18 = .ok (.iload_n 2, 1) := by decide +kernel
theorem dX10_seeBase_19 : decode cX10_seeBase 19 = .ok (.iastore, 1) := by decide +kernel
theorem dX10_seeBase_20 : decode cX10_seeBase 20 = .ok (.aload_n 0, 1) := by decide +kernel
theorem dX10_seeBase_21 : decode cX10_seeBase 21 = .ok (.getfield 68, 3) := by decide +kernel
theorem dX10_seeBase_24 : decode cX10_seeBase 24 = .ok (.aload_n 0, 1) := by decide +kernel
theorem dX10_seeBase_25 : decode cX10_seeBase 25 = .ok (.getfield 146, 3) := by decide +kernel
theorem dX10_seeBase_28 : decode cX10_seeBase 28 = .ok (.iload_n 3, 1) := by decide +kernel
theorem dX10_seeBase_29 : decode cX10_seeBase 29 = .ok (.iastore, 1) := by decide +kernel
theorem dX10_seeBase_30 : decode cX10_seeBase 30 = .ok (.aload_n 0, 1) := by decide +kernel
theorem dX10_seeBase_31 : decode cX10_seeBase 31 = .ok (.dup, 1) := by decide +kernel
theorem dX10_seeBase_32 : decode cX10_seeBase 32 = .ok (.getfield 146, 3) := by decide +kernel
theorem dX10_seeBase_35 : decode cX10_seeBase 35 = .ok (.iconst 1, 1) := by decide +kernel
theorem dX10_seeBase_36 : decode cX10_seeBase 36 = .ok (.iadd, 1) := by decide +kernel
theorem dX10_seeBase_37 : decode cX10_seeBase 37 = .ok (.putfield 146, 3) := by decide +kernel
theorem dX10_seeBase_40 : decode cX10_seeBase 40 = .ok (.return_, 1) := by decide +kernel
theorem dX10_seen_0 : decode cX10_seen 0 = .ok (.iconst 0, 1) := by decide +kernel
theorem dX10_seen_1 : decode cX10_seen 1 = .ok (.istore_n 3, 1) := by decide +kernel
theorem dX10_seen_2 : decode cX10_seen 2 = .ok (.iconst 0, 1) := by decide +kernel
theorem dX10_seen_3 : decode cX10_seen 3 = .ok (.istore 4, 2) := by decide +kernel
theorem dX10_seen_5 : decode cX10_seen 5 = .ok (.iload 4, 2) := by decide +kernel
theorem dX10_seen_7 : decode cX10_seen 7 = .ok (.aload_n 0, 1) := by decide +kernel
theorem dX10_seen_8 : decode cX10_seen 8 = .ok (.getfield 146, 3) := by decide +kernel
theorem dX10_seen_11 : decode cX10_seen 11 = .ok (.if_icmp .ge 39, 3) := by decide +kernel
theorem dX10_seen_14 : decode cX10_seen 14 = .ok (.iload_n 3, 1) := by decide +kernel
theorem dX10_seen_15 : decode cX10_seen 15 = .ok (.aload_n 0, 1) := by decide +kernel
theorem dX10_seen_16 : decode cX10_seen 16 = .ok (.getfield 62, 3) := by decide +kernel
theorem dX10_seen_19 : decode cX10_seen 19 = .ok (.iload 4, 2) := by decide +kernel
theorem dX10_seen_21 : decode cX10_seen 21 = .ok (.iaload, 1) := by decide +kernel
theorem dX10_seen_22 : decode cX10_seen 22 = .ok (.iload_n 1, 1) := by decide +kernel
theorem dX10_seen_23 : decode cX10_seen 23 = .ok (.if_icmp .ne 18, 3) := by decide +kernel
theorem dX10_seen_26 : decode cX10_seen 26 = .ok (.aload_n 0, 1) := by decide +kernel
theorem dX10_seen_27 : decode cX10_seen 27 = .ok (.getfield 65, 3) := by decide +kernel
theorem dX10_seen_30 : decode cX10_seen 30 = .ok (.iload 4, 2) := by decide +kernel
theorem dX10_seen_32 : decode cX10_seen 32 = .ok (.iaload, 1) := by decide +kernel
theorem dX10_seen_33 : decode cX10_seen 33 = .ok (.iload_n 2, 1) := by decide +kernel
theorem dX10_seen_34 : decode cX10_seen 34 = .ok (.if_icmp .ne 7, 3) := by decide +kernel
theorem dX10_seen_37 : decode cX10_seen 37 = .ok (.iconst 1, 1) := by decide +kernel
theorem dX10_seen_38 : decode cX10_seen 38 = .ok (.goto 4, 3) := by decide +kernel
theorem dX10_seen_41 : decode cX10_seen 41 = .ok (.iconst 0, 1) := by decide +kernel
theorem dX10_seen_42 : decode cX10_seen 42 = .ok (.iadd, 1) := by decide +kernel
theorem dX10_seen_43 : decode cX10_seen 43 = .ok (.istore_n 3, 1) := by decide +kernel
theorem dX10_seen_44 : decode cX10_seen 44 = .ok (.iinc 4 1, 3) := by decide +kernel
theorem dX10_seen_47 : decode cX10_seen 47 = .ok (.goto (-42), 3) := by decide +kernel
theorem dX10_seen_50 : decode cX10_seen 50 = .ok (.iload_n 3, 1) := by decide +kernel
theorem dX10_seen_51 : decode cX10_seen 51 = .ok (.ireturn, 1) := by decide +kernel
theorem dX10_seenMany_0 : decode cX10_seenMany 0 = .ok (.aload_n 0, 1) := by decide +kernel
theorem dX10_seenMany_1 : decode cX10_seenMany 1 = .ok (.getfield 149, 3) := by decide +kernel
theorem dX10_seenMany_4 : decode cX10_seenMany 4 = .ok (.ifCond .eq 10, 3) := by decide +kernel
theorem dX10_seenMany_7 : decode cX10_seenMany 7 = .ok (.aload_n 0, 1) := by decide +kernel
theorem dX10_seenMany_8 : decode cX10_seenMany 8 = .ok (.getfield 133, 3) := by decide +kernel
theorem dX10_seenMany_11 : decode cX10_seenMany 11 = .ok (.goto 7, 3) := by decide +kernel
theorem dX10_seenMany_14 : decode cX10_seenMany 14 = .ok (.aload_n 0, 1) := by decide +kernel
theorem dX10_seenMany_15 : decode cX10_seenMany 15 = .ok (.getfield 146, 3) := by decide +kernel
theorem dX10_seenMany_18 : decode cX10_seenMany 18 = .ok (.ireturn, 1) := by decide +kernel
theorem dX10_settle_0 : decode cX10_settle 0 = .ok (.iload_n 2, 1) := by decide +kernel
theorem dX10_settle_1 : decode cX10_settle 1 = .ok (.iconst 1, 1) := by decide +kernel
theorem dX10_settle_2 : decode cX10_settle 2 = .ok (.iadd, 1) := by decide +kernel
theorem dX10_settle_3 : decode cX10_settle 3 = .ok (.istore_n 3, 1) := by decide +kernel
theorem dX10_settle_4 : decode cX10_settle 4 = .ok (.iconst (-1), 1) := by decide +kernel
theorem dX10_settle_5 : decode cX10_settle 5 = .ok (.istore 4, 2) := by decide +kernel
theorem dX10_settle_7 : decode cX10_settle 7 = .ok (.bipush 100, 2) := by decide +kernel
theorem dX10_settle_9 : decode cX10_settle 9 = .ok (.istore 5, 2) := by decide +kernel
theorem dX10_settle_11 : decode cX10_settle 11 = .ok (.iconst 0, 1) := by decide +kernel
theorem dX10_settle_12 : decode cX10_settle 12 = .ok (.istore 6, 2) := by decide +kernel
theorem dX10_settle_14 : decode cX10_settle 14 = .ok (.iload 6, 2) := by decide +kernel
theorem dX10_settle_16 : decode cX10_settle 16 = .ok (.iconst 2, 1) := by decide +kernel
theorem dX10_settle_17 : decode cX10_settle 17 = .ok (.if_icmp .ge 282, 3) := by decide +kernel
theorem dX10_settle_20 : decode cX10_settle 20 = .ok (.aload_n 0, 1) := by decide +kernel
theorem dX10_settle_21 : decode cX10_settle 21 = .ok (.iload_n 1, 1) := by decide +kernel
theorem dX10_settle_22 : decode cX10_settle 22 = .ok (.iload 6, 2) := by decide +kernel
theorem dX10_settle_24 : decode cX10_settle 24 = .ok (.invokevirtual 126, 3) := by decide +kernel
theorem dX10_settle_27 : decode cX10_settle 27 = .ok (.iconst 0, 1) := by decide +kernel
theorem dX10_settle_28 : decode cX10_settle 28 = .ok (.istore 7, 2) := by decide +kernel
theorem dX10_settle_30 : decode cX10_settle 30 = .ok (.iload 7, 2) := by decide +kernel
theorem dX10_settle_32 : decode cX10_settle 32 = .ok (.aload_n 0, 1) := by decide +kernel
theorem dX10_settle_33 : decode cX10_settle 33 = .ok (.getfield 120, 3) := by decide +kernel
theorem dX10_settle_36 : decode cX10_settle 36 = .ok (.if_icmp .ge 257, 3) := by decide +kernel
theorem dX10_settle_39 : decode cX10_settle 39 = .ok (.aload_n 0, 1) := by decide +kernel
theorem dX10_settle_40 : decode cX10_settle 40 = .ok (.aload_n 0, 1) := by decide +kernel
theorem dX10_settle_41 : decode cX10_settle 41 = .ok (.getfield 23, 3) := by decide +kernel
theorem dX10_settle_44 : decode cX10_settle 44 = .ok (.iload_n 1, 1) := by decide +kernel
theorem dX10_settle_45 : decode cX10_settle 45 = .ok (.iaload, 1) := by decide +kernel
theorem dX10_settle_46 : decode cX10_settle 46 = .ok (.iload 7, 2) := by decide +kernel
theorem dX10_settle_48 : decode cX10_settle 48 = .ok (.invokevirtual 130, 3) := by decide +kernel
theorem dX10_settle_51 : decode cX10_settle 51 = .ok (.istore 8, 2) := by decide +kernel
theorem dX10_settle_53 : decode cX10_settle 53 = .ok (.iconst 1, 1) := by decide +kernel
theorem dX10_settle_54 : decode cX10_settle 54 = .ok (.istore 9, 2) := by decide +kernel
theorem dX10_settle_56 : decode cX10_settle 56 = .ok (.iload 9, 2) := by decide +kernel
theorem dX10_settle_58 : decode cX10_settle 58 = .ok (.iload 8, 2) := by decide +kernel
theorem dX10_settle_60 : decode cX10_settle 60 = .ok (.if_icmp .gt 227, 3) := by decide +kernel
theorem dX10_settle_63 : decode cX10_settle 63 = .ok (.aload_n 0, 1) := by decide +kernel
theorem dX10_settle_64 : decode cX10_settle 64 = .ok (.getfield 59, 3) := by decide +kernel
theorem dX10_settle_67 : decode cX10_settle 67 = .ok (.bipush 20, 2) := by decide +kernel
theorem dX10_settle_69 : decode cX10_settle 69 = .ok (.aload_n 0, 1) := by decide +kernel
theorem dX10_settle_70 : decode cX10_settle 70 = .ok (.getfield 23, 3) := by decide +kernel
theorem dX10_settle_73 : decode cX10_settle 73 = .ok (.iload_n 1, 1) := by decide +kernel
theorem dX10_settle_74 : decode cX10_settle 74 = .ok (.iaload, 1) := by decide +kernel
theorem dX10_settle_75 : decode cX10_settle 75 = .ok (.imul, 1) := by decide +kernel
theorem dX10_settle_76 : decode cX10_settle 76 = .ok (.iload 9, 2) := by decide +kernel
theorem dX10_settle_78 : decode cX10_settle 78 = .ok (.iadd, 1) := by decide +kernel
theorem dX10_settle_79 : decode cX10_settle 79 = .ok (.iaload, 1) := by decide +kernel
theorem dX10_settle_80 : decode cX10_settle 80 = .ok (.istore 10, 2) := by decide +kernel
theorem dX10_settle_82 : decode cX10_settle 82 = .ok (.iload 10, 2) := by decide +kernel
theorem dX10_settle_84 : decode cX10_settle 84 = .ok (.iload_n 3, 1) := by decide +kernel
theorem dX10_settle_85 : decode cX10_settle 85 = .ok (.if_icmp .ge 7, 3) := by decide +kernel
theorem dX10_settle_88 : decode cX10_settle 88 = .ok (.iconst 1, 1) := by decide +kernel
theorem dX10_settle_89 : decode cX10_settle 89 = .ok (.goto 4, 3) := by decide +kernel
theorem dX10_settle_92 : decode cX10_settle 92 = .ok (.iconst 0, 1) := by decide +kernel
theorem dX10_settle_93 : decode cX10_settle 93 = .ok (.istore 11, 2) := by decide +kernel
theorem dX10_settle_95 : decode cX10_settle 95 = .ok (.iload 11, 2) := by decide +kernel
theorem dX10_settle_97 : decode cX10_settle 97 = .ok (.ifCond .ne 45, 3) := by decide +kernel
theorem dX10_settle_100 : decode cX10_settle 100 = .ok (.iload 10, 2) := by decide +kernel
theorem dX10_settle_102 : decode cX10_settle 102 = .ok (.iload_n 3, 1) := by decide +kernel
theorem dX10_settle_103 : decode cX10_settle 103 = .ok (.if_icmp .ne 43, 3) := by decide +kernel
theorem dX10_settle_106 : decode cX10_settle 106 = .ok (.iload 7, 2) := by decide +kernel
theorem dX10_settle_108 : decode cX10_settle 108 = .ok (.aload_n 0, 1) := by decide +kernel
theorem dX10_settle_109 : decode cX10_settle 109 = .ok (.getfield 35, 3) := by decide +kernel
theorem dX10_settle_112 : decode cX10_settle 112 = .ok (.iload_n 1, 1) := by decide +kernel
theorem dX10_settle_113 : decode cX10_settle 113 = .ok (.iaload, 1) := by decide +kernel
theorem dX10_settle_114 : decode cX10_settle 114 = .ok (.if_icmp .lt 28, 3) := by decide +kernel
theorem dX10_settle_117 : decode cX10_settle 117 = .ok (.iload 7, 2) := by decide +kernel
theorem dX10_settle_119 : decode cX10_settle 119 = .ok (.aload_n 0, 1) := by decide +kernel
theorem dX10_settle_120 : decode cX10_settle 120 = .ok (.getfield 35, 3) := by decide +kernel
theorem dX10_settle_123 : decode cX10_settle 123 = .ok (.iload_n 1, 1) := by decide +kernel
theorem dX10_settle_124 : decode cX10_settle 124 = .ok (.iaload, 1) := by decide +kernel
theorem dX10_settle_125 : decode cX10_settle 125 = .ok (.if_icmp .ne 21, 3) := by decide +kernel
theorem dX10_settle_128 : decode cX10_settle 128 = .ok (.iload 7, 2) := by decide +kernel
theorem dX10_settle_130 : decode cX10_settle 130 = .ok (.iload 9, 2) := by decide +kernel
theorem dX10_settle_132 : decode cX10_settle 132 = .ok (.iadd, 1) := by decide +kernel
theorem dX10_settle_133 : decode cX10_settle 133 = .ok (.aload_n 0, 1) := by decide +kernel
theorem dX10_settle_134 : decode cX10_settle 134 = .ok (.getfield 38, 3) := by decide +kernel
theorem dX10_settle_137 : decode cX10_settle 137 = .ok (.iload_n 1, 1) := by decide +kernel
theorem dX10_settle_138 : decode cX10_settle 138 = .ok (.iaload, 1) := by decide +kernel
theorem dX10_settle_139 : decode cX10_settle 139 = .ok (.if_icmp .ge 7, 3) := by decide +kernel
theorem dX10_settle_142 : decode cX10_settle 142 = .ok (.iconst 1, 1) := by decide +kernel
theorem dX10_settle_143 : decode cX10_settle 143 = .ok (.goto 4, 3) := by decide +kernel
theorem dX10_settle_146 : decode cX10_settle 146 = .ok (.iconst 0, 1) := by decide +kernel
theorem dX10_settle_147 : decode cX10_settle 147 = .ok (.istore 12, 2) := by decide +kernel
theorem dX10_settle_149 : decode cX10_settle 149 = .ok (.iload 10, 2) := by decide +kernel
theorem dX10_settle_151 : decode cX10_settle 151 = .ok (.iload_n 3, 1) := by decide +kernel
theorem dX10_settle_152 : decode cX10_settle 152 = .ok (.if_icmp .gt 129, 3) := by decide +kernel
theorem dX10_settle_155 : decode cX10_settle 155 = .ok (.iload 10, 2) := by decide +kernel
theorem dX10_settle_157 : decode cX10_settle 157 = .ok (.iload_n 2, 1) := by decide +kernel
theorem dX10_settle_158 : decode cX10_settle 158 = .ok (.if_icmp .gt 123, 3) := by decide +kernel
theorem dX10_settle_161 : decode cX10_settle 161 = .ok (.iload 11, 2) := by decide +kernel
theorem dX10_settle_163 : decode cX10_settle 163 = .ok (.ifCond .ne 10, 3) := by decide +kernel
theorem dX10_settle_166 : decode cX10_settle 166 = .ok (.iload 7, 2) := by decide +kernel
theorem dX10_settle_168 : decode cX10_settle 168 = .ok (.iload 4, 2) := by decide +kernel
theorem dX10_settle_170 : decode cX10_settle 170 = .ok (.if_icmp .le 8, 3) := by decide +kernel
theorem dX10_settle_173 : decode cX10_settle 173 = .ok (.iload 7, 2) := by decide +kernel
theorem dX10_settle_175 : decode cX10_settle 175 = .ok (.goto 5, 3) := by decide +kernel
theorem dX10_settle_178 : decode cX10_settle 178 = .ok (.iload 4, 2) := by decide +kernel
theorem dX10_settle_180 : decode cX10_settle 180 = .ok (.istore 4, 2) := by decide +kernel
theorem dX10_settle_182 : decode cX10_settle 182 = .ok (.iload 11, 2) := by decide +kernel
theorem dX10_settle_184 : decode cX10_settle 184 = .ok (.ifCond .ne 13, 3) := by decide +kernel
theorem dX10_settle_187 : decode cX10_settle 187 = .ok (.iload 7, 2) := by decide +kernel
theorem dX10_settle_189 : decode cX10_settle 189 = .ok (.iload 9, 2) := by decide +kernel
theorem dX10_settle_191 : decode cX10_settle 191 = .ok (.iadd, 1) := by decide +kernel
theorem dX10_settle_192 : decode cX10_settle 192 = .ok (.iload 5, 2) := by decide +kernel
theorem dX10_settle_194 : decode cX10_settle 194 = .ok (.if_icmp .ge 11, 3) := by decide +kernel
theorem dX10_settle_197 : decode cX10_settle 197 = .ok (.iload 7, 2) := by decide +kernel
theorem dX10_settle_199 : decode cX10_settle 199 = .ok (.iload 9, 2) := by decide +kernel
theorem dX10_settle_201 : decode cX10_settle 201 = .ok (.iadd, 1) := by decide +kernel
theorem dX10_settle_202 : decode cX10_settle 202 = .ok (.goto 5, 3) := by decide +kernel
theorem dX10_settle_205 : decode cX10_settle 205 = .ok (.iload 5, 2) := by decide +kernel
theorem dX10_settle_207 : decode cX10_settle 207 = .ok (.istore 5, 2) := by decide +kernel
theorem dX10_settle_209 : decode cX10_settle 209 = .ok (.aload_n 0, 1) := by decide +kernel
theorem dX10_settle_210 : decode cX10_settle 210 = .ok (.getfield 35, 3) := by decide +kernel
theorem dX10_settle_213 : decode cX10_settle 213 = .ok (.iload_n 1, 1) := by decide +kernel
theorem dX10_settle_214 : decode cX10_settle 214 = .ok (.iload 12, 2) := by decide +kernel
theorem dX10_settle_216 : decode cX10_settle 216 = .ok (.ifCond .eq 8, 3) := by decide +kernel
theorem dX10_settle_219 : decode cX10_settle 219 = .ok (.iload 7, 2) := by decide +kernel
theorem dX10_settle_221 : decode cX10_settle 221 = .ok (.goto 9, 3) := by decide +kernel
theorem dX10_settle_224 : decode cX10_settle 224 = .ok (.aload_n 0, 1) := by decide +kernel
theorem dX10_settle_225 : decode cX10_settle 225 = .ok (.getfield 35, 3) := by decide +kernel
theorem dX10_settle_228 : decode cX10_settle 228 = .ok (.iload_n 1, 1) := by decide +kernel
theorem dX10_settle_229 : decode cX10_settle 229 = .ok (.iaload, 1) := by decide +kernel
theorem dX10_settle_230 : decode cX10_settle 230 = .ok (.iastore, 1) := by decide +kernel
theorem dX10_settle_231 : decode cX10_settle 231 = .ok (.aload_n 0, 1) := by decide +kernel
theorem dX10_settle_232 : decode cX10_settle 232 = .ok (.getfield 38, 3) := by decide +kernel
theorem dX10_settle_235 : decode cX10_settle 235 = .ok (.iload_n 1, 1) := by decide +kernel
theorem dX10_settle_236 : decode cX10_settle 236 = .ok (.iload 12, 2) := by decide +kernel
theorem dX10_settle_238 : decode cX10_settle 238 = .ok (.ifCond .eq 11, 3) := by decide +kernel
theorem dX10_settle_241 : decode cX10_settle 241 = .ok (.iload 7, 2) := by decide +kernel
theorem dX10_settle_243 : decode cX10_settle 243 = .ok (.iload 9, 2) := by decide +kernel
theorem dX10_settle_245 : decode cX10_settle 245 = .ok (.iadd, 1) := by decide +kernel
theorem dX10_settle_246 : decode cX10_settle 246 = .ok (.goto 9, 3) := by decide +kernel
theorem dX10_settle_249 : decode cX10_settle 249 = .ok (.aload_n 0, 1) := by decide +kernel
theorem dX10_settle_250 : decode cX10_settle 250 = .ok (.getfield 38, 3) := by decide +kernel
theorem dX10_settle_253 : decode cX10_settle 253 = .ok (.iload_n 1, 1) := by decide +kernel
theorem dX10_settle_254 : decode cX10_settle 254 = .ok (.iaload, 1) := by decide +kernel
theorem dX10_settle_255 : decode cX10_settle 255 = .ok (.iastore, 1) := by decide +kernel
theorem dX10_settle_256 : decode cX10_settle 256 = .ok (.aload_n 0, 1) := by decide +kernel
theorem dX10_settle_257 : decode cX10_settle 257 = .ok (.getfield 44, 3) := by decide +kernel
theorem dX10_settle_260 : decode cX10_settle 260 = .ok (.iload_n 1, 1) := by decide +kernel
theorem dX10_settle_261 : decode cX10_settle 261 = .ok (.iload 12, 2) := by decide +kernel
theorem dX10_settle_263 : decode cX10_settle 263 = .ok (.ifCond .eq 8, 3) := by decide +kernel
theorem dX10_settle_266 : decode cX10_settle 266 = .ok (.iload 6, 2) := by decide +kernel
theorem dX10_settle_268 : decode cX10_settle 268 = .ok (.goto 9, 3) := by decide +kernel
theorem dX10_settle_271 : decode cX10_settle 271 = .ok (.aload_n 0, 1) := by decide +kernel
theorem dX10_settle_272 : decode cX10_settle 272 = .ok (.getfield 44, 3) := by decide +kernel
theorem dX10_settle_275 : decode cX10_settle 275 = .ok (.iload_n 1, 1) := by decide +kernel
theorem dX10_settle_276 : decode cX10_settle 276 = .ok (.iaload, 1) := by decide +kernel
theorem dX10_settle_277 : decode cX10_settle 277 = .ok (.iastore, 1) := by decide +kernel
theorem dX10_settle_278 : decode cX10_settle 278 = .ok (.iload 10, 2) := by decide +kernel
theorem dX10_settle_280 : decode cX10_settle 280 = .ok (.istore_n 3, 1) := by decide +kernel
theorem dX10_settle_281 : decode cX10_settle 281 = .ok (.iinc 9 1, 3) := by decide +kernel
theorem dX10_settle_284 : decode cX10_settle 284 = .ok (.goto (-228), 3) := by decide +kernel
theorem dX10_settle_287 : decode cX10_settle 287 = .ok (.iinc 7 1, 3) := by decide +kernel
theorem dX10_settle_290 : decode cX10_settle 290 = .ok (.goto (-260), 3) := by decide +kernel
theorem dX10_settle_293 : decode cX10_settle 293 = .ok (.iinc 6 1, 3) := by decide +kernel
theorem dX10_settle_296 : decode cX10_settle 296 = .ok (.goto (-282), 3) := by decide +kernel
theorem dX10_settle_299 : decode cX10_settle 299 = .ok (.aload_n 0, 1) := by decide +kernel
theorem dX10_settle_300 : decode cX10_settle 300 = .ok (.getfield 41, 3) := by decide +kernel
theorem dX10_settle_303 : decode cX10_settle 303 = .ok (.iload_n 1, 1) := by decide +kernel
theorem dX10_settle_304 : decode cX10_settle 304 = .ok (.iload_n 3, 1) := by decide +kernel
theorem dX10_settle_305 : decode cX10_settle 305 = .ok (.iastore, 1) := by decide +kernel
theorem dX10_settle_306 : decode cX10_settle 306 = .ok (.aload_n 0, 1) := by decide +kernel
theorem dX10_settle_307 : decode cX10_settle 307 = .ok (.getfield 32, 3) := by decide +kernel
theorem dX10_settle_310 : decode cX10_settle 310 = .ok (.iload_n 1, 1) := by decide +kernel
theorem dX10_settle_311 : decode cX10_settle 311 = .ok (.iload_n 3, 1) := by decide +kernel
theorem dX10_settle_312 : decode cX10_settle 312 = .ok (.iload_n 2, 1) := by decide +kernel
theorem dX10_settle_313 : decode cX10_settle 313 = .ok (.if_icmp .le 7, 3) := by decide +kernel
theorem dX10_settle_316 : decode cX10_settle 316 = .ok (.iconst 1, 1) := by decide +kernel
theorem dX10_settle_317 : decode cX10_settle 317 = .ok (.goto 15, 3) := by decide +kernel
theorem dX10_settle_320 : decode cX10_settle 320 = .ok (.iload 4, 2) := by decide +kernel
theorem dX10_settle_322 : decode cX10_settle 322 = .ok (.iload 5, 2) := by decide +kernel
theorem dX10_settle_324 : decode cX10_settle 324 = .ok (.if_icmp .lt 7, 3) := by decide +kernel
theorem dX10_settle_327 : decode cX10_settle 327 = .ok (.iconst 2, 1) := by decide +kernel
theorem dX10_settle_328 : decode cX10_settle 328 = .ok (.goto 4, 3) := by decide +kernel
theorem dX10_settle_331 : decode cX10_settle 331 = .ok (.iconst 0, 1) := by decide +kernel
theorem dX10_settle_332 : decode cX10_settle 332 = .ok (.iastore, 1) := by decide +kernel
theorem dX10_settle_333 : decode cX10_settle 333 = .ok (.aload_n 0, 1) := by decide +kernel
theorem dX10_settle_334 : decode cX10_settle 334 = .ok (.getfield 47, 3) := by decide +kernel
theorem dX10_settle_337 : decode cX10_settle 337 = .ok (.iload_n 1, 1) := by decide +kernel
theorem dX10_settle_338 : decode cX10_settle 338 = .ok (.iconst 0, 1) := by decide +kernel
theorem dX10_settle_339 : decode cX10_settle 339 = .ok (.iastore, 1) := by decide +kernel
theorem dX10_settle_340 : decode cX10_settle 340 = .ok (.return_, 1) := by decide +kernel
theorem dX10_siteThere_0 : decode cX10_siteThere 0 = .ok (.iload_n 1, 1) := by decide +kernel
theorem dX10_siteThere_1 : decode cX10_siteThere 1 = .ok (.ifCond .eq 13, 3) := by decide +kernel
theorem dX10_siteThere_4 : decode cX10_siteThere 4 = .ok (.iload_n 2, 1) := by decide +kernel
theorem dX10_siteThere_5 : decode cX10_siteThere 5 = .ok (.aload_n 0, 1) := by decide +kernel
theorem dX10_siteThere_6 : decode cX10_siteThere 6 = .ok (.getfield 120, 3) := by decide +kernel
theorem dX10_siteThere_9 : decode cX10_siteThere 9 = .ok (.iconst 1, 1) := by decide +kernel
theorem dX10_siteThere_10 : decode cX10_siteThere 10 = .ok (.isub, 1) := by decide +kernel
theorem dX10_siteThere_11 : decode cX10_siteThere 11 = .ok (.if_icmp .ge 16, 3) := by decide +kernel
theorem dX10_siteThere_14 : decode cX10_siteThere 14 = .ok (.aload_n 0, 1) := by decide +kernel
theorem dX10_siteThere_15 : decode cX10_siteThere 15 = .ok (.iload_n 1, 1) := by decide +kernel
theorem dX10_siteThere_16 : decode cX10_siteThere 16 = .ok (.iload_n 2, 1) := by decide +kernel
theorem dX10_siteThere_17 : decode cX10_siteThere 17 = .ok (.invokevirtual 220, 3) := by decide +kernel
theorem dX10_siteThere_20 : decode cX10_siteThere 20 = .ok (.ifCond .eq 7, 3) := by decide +kernel
theorem dX10_siteThere_23 : decode cX10_siteThere 23 = .ok (.iconst 1, 1) := by decide +kernel
theorem dX10_siteThere_24 : decode cX10_siteThere 24 = .ok (.goto 4, 3) := by decide +kernel
theorem dX10_siteThere_27 : decode cX10_siteThere 27 = .ok (.iconst 0, 1) := by decide +kernel
theorem dX10_siteThere_28 : decode cX10_siteThere 28 = .ok (.ireturn, 1) := by decide +kernel
theorem dX10_size_0 : decode cX10_size 0 = .ok (.iload_n 1, 1) := by decide +kernel
theorem dX10_size_1 : decode cX10_size 1 = .ok (.iconst 0, 1) := by decide +kernel
theorem dX10_size_2 : decode cX10_size 2 = .ok (.iconst 1, 1) := by decide +kernel
theorem dX10_size_3 : decode cX10_size 3 = .ok (.invokestatic 89, 3) := by decide +kernel
theorem dX10_size_6 : decode cX10_size 6 = .ok (.ifCond .eq 7, 3) := by decide +kernel
theorem dX10_size_9 : decode cX10_size 9 = .ok (.iconst (-1), 1) := by decide +kernel
theorem dX10_size_10 : decode cX10_size 10 = .ok (.goto 9, 3) := by decide +kernel
theorem dX10_size_13 : decode cX10_size 13 = .ok (.aload_n 0, 1) := by decide +kernel
theorem dX10_size_14 : decode cX10_size 14 = .ok (.getfield 13, 3) := by decide +kernel
theorem dX10_size_17 : decode cX10_size 17 = .ok (.iload_n 1, 1) := by decide +kernel
theorem dX10_size_18 : decode cX10_size 18 = .ok (.iaload, 1) := by decide +kernel
theorem dX10_size_19 : decode cX10_size 19 = .ok (.ireturn, 1) := by decide +kernel
theorem dX10_step_0 : decode cX10_step 0 = .ok (.iload_n 1, 1) := by decide +kernel
theorem dX10_step_1 : decode cX10_step 1 = .ok (.iconst 0, 1) := by decide +kernel
theorem dX10_step_2 : decode cX10_step 2 = .ok (.aload_n 0, 1) := by decide +kernel
theorem dX10_step_3 : decode cX10_step 3 = .ok (.getfield 123, 3) := by decide +kernel
theorem dX10_step_6 : decode cX10_step 6 = .ok (.iconst 1, 1) := by decide +kernel
theorem dX10_step_7 : decode cX10_step 7 = .ok (.isub, 1) := by decide +kernel
theorem dX10_step_8 : decode cX10_step 8 = .ok (.invokestatic 89, 3) := by decide +kernel
theorem dX10_step_11 : decode cX10_step 11 = .ok (.ifCond .ne 19, 3) := by decide +kernel
theorem dX10_step_14 : decode cX10_step 14 = .ok (.iload_n 2, 1) := by decide +kernel
theorem dX10_step_15 : decode cX10_step 15 = .ok (.iconst 0, 1) := by decide +kernel
theorem dX10_step_16 : decode cX10_step 16 = .ok (.aload_n 0, 1) := by decide +kernel
theorem dX10_step_17 : decode cX10_step 17 = .ok (.getfield 47, 3) := by decide +kernel
theorem dX10_step_20 : decode cX10_step 20 = .ok (.iload_n 1, 1) := by decide +kernel
theorem dX10_step_21 : decode cX10_step 21 = .ok (.iaload, 1) := by decide +kernel
theorem dX10_step_22 : decode cX10_step 22 = .ok (.iconst 1, 1) := by decide +kernel
theorem dX10_step_23 : decode cX10_step 23 = .ok (.isub, 1) := by decide +kernel
theorem dX10_step_24 : decode cX10_step 24 = .ok (.invokestatic 89, 3) := by decide +kernel
theorem dX10_step_27 : decode cX10_step 27 = .ok (.ifCond .eq 7, 3) := by decide +kernel
theorem dX10_step_30 : decode cX10_step 30 = .ok (.iconst 0, 1) := by decide +kernel
theorem dX10_step_31 : decode cX10_step 31 = .ok (.goto 14, 3) := by decide +kernel
theorem dX10_step_34 : decode cX10_step 34 = .ok (.aload_n 0, 1) := by decide +kernel
theorem dX10_step_35 : decode cX10_step 35 = .ok (.getfield 50, 3) := by decide +kernel
theorem dX10_step_38 : decode cX10_step 38 = .ok (.bipush 40, 2) := by decide +kernel
theorem dX10_step_40 : decode cX10_step 40 = .ok (.iload_n 1, 1) := by decide +kernel
theorem dX10_step_41 : decode cX10_step 41 = .ok (.imul, 1) := by decide +kernel
theorem dX10_step_42 : decode cX10_step 42 = .ok (.iload_n 2, 1) := by decide +kernel
theorem dX10_step_43 : decode cX10_step 43 = .ok (.iadd, 1) := by decide +kernel
theorem dX10_step_44 : decode cX10_step 44 = .ok (.iaload, 1) := by decide +kernel
theorem dX10_step_45 : decode cX10_step 45 = .ok (.ireturn, 1) := by decide +kernel

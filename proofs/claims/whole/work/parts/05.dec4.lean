theorem dX10_outHead_0 : decode cX10_outHead 0 = .ok (.aload_n 0, 1) := by decide +kernel
theorem dX10_outHead_1 : decode cX10_outHead 1 = .ok (.bipush 35, 2) := by decide +kernel
theorem dX10_outHead_3 : decode cX10_outHead 3 = .ok (.bipush 35, 2) := by decide +kernel
theorem dX10_outHead_5 : decode cX10_outHead 5 = .ok (.bipush 102, 2) := by decide +kernel
theorem dX10_outHead_7 : decode cX10_outHead 7 = .ok (.bipush 105, 2) := by decide +kernel
theorem dX10_outHead_9 : decode cX10_outHead 9 = .ok (.bipush 108, 2) := by decide +kernel
theorem dX10_outHead_11 : decode cX10_outHead 11 = .ok (.bipush 101, 2) := by decide +kernel
theorem dX10_outHead_13 : decode cX10_outHead 13 = .ok (.invokevirtual 238, 3) := by decide +kernel
theorem dX10_outHead_16 : decode cX10_outHead 16 = .ok (.aload_n 0, 1) := by decide +kernel
theorem dX10_outHead_17 : decode cX10_outHead 17 = .ok (.bipush 102, 2) := by decide +kernel
theorem dX10_outHead_19 : decode cX10_outHead 19 = .ok (.bipush 111, 2) := by decide +kernel
theorem dX10_outHead_21 : decode cX10_outHead 21 = .ok (.bipush 114, 2) := by decide +kernel
theorem dX10_outHead_23 : decode cX10_outHead 23 = .ok (.bipush 109, 2) := by decide +kernel
theorem dX10_outHead_25 : decode cX10_outHead 25 = .ok (.bipush 97, 2) := by decide +kernel
theorem dX10_outHead_27 : decode cX10_outHead 27 = .ok (.bipush 116, 2) := by decide +kernel
theorem dX10_outHead_29 : decode cX10_outHead 29 = .ok (.invokevirtual 238, 3) := by decide +kernel
theorem dX10_outHead_32 : decode cX10_outHead 32 = .ok (.aload_n 0, 1) := by decide +kernel
theorem dX10_outHead_33 : decode cX10_outHead 33 = .ok (.bipush 61, 2) := by decide +kernel
theorem dX10_outHead_35 : decode cX10_outHead 35 = .ok (.bipush 86, 2) := by decide +kernel
theorem dX10_outHead_37 : decode cX10_outHead 37 = .ok (.bipush 67, 2) := by decide +kernel
theorem dX10_outHead_39 : decode cX10_outHead 39 = .ok (.bipush 70, 2) := by decide +kernel
theorem dX10_outHead_41 : decode cX10_outHead 41 = .ok (.bipush 118, 2) := by decide +kernel
theorem dX10_outHead_43 : decode cX10_outHead 43 = .ok (.bipush 52, 2) := by decide +kernel
theorem dX10_outHead_45 : decode cX10_outHead 45 = .ok (.invokevirtual 238, 3) := by decide +kernel
theorem dX10_outHead_48 : decode cX10_outHead 48 = .ok (.aload_n 0, 1) := by decide +kernel
theorem dX10_outHead_49 : decode cX10_outHead 49 = .ok (.bipush 46, 2) := by decide +kernel
theorem dX10_outHead_51 : decode cX10_outHead 51 = .ok (.bipush 51, 2) := by decide +kernel
theorem dX10_outHead_53 : decode cX10_outHead 53 = .ok (.bipush 10, 2) := by decide +kernel
theorem dX10_outHead_55 : decode cX10_outHead 55 = .ok (.bipush 35, 2) := by decide +kernel
theorem dX10_outHead_57 : decode cX10_outHead 57 = .ok (.bipush 67, 2) := by decide +kernel
theorem dX10_outHead_59 : decode cX10_outHead 59 = .ok (.bipush 72, 2) := by decide +kernel
theorem dX10_outHead_61 : decode cX10_outHead 61 = .ok (.invokevirtual 238, 3) := by decide +kernel
theorem dX10_outHead_64 : decode cX10_outHead 64 = .ok (.aload_n 0, 1) := by decide +kernel
theorem dX10_outHead_65 : decode cX10_outHead 65 = .ok (.bipush 82, 2) := by decide +kernel
theorem dX10_outHead_67 : decode cX10_outHead 67 = .ok (.bipush 79, 2) := by decide +kernel
theorem dX10_outHead_69 : decode cX10_outHead 69 = .ok (.bipush 77, 2) := by decide +kernel
theorem dX10_outHead_71 : decode cX10_outHead 71 = .ok (.bipush 9, 2) := by decide +kernel
theorem dX10_outHead_73 : decode cX10_outHead 73 = .ok (.bipush 80, 2) := by decide +kernel
theorem dX10_outHead_75 : decode cX10_outHead 75 = .ok (.bipush 79, 2) := by decide +kernel
theorem dX10_outHead_77 : decode cX10_outHead 77 = .ok (.invokevirtual 238, 3) := by decide +kernel
theorem dX10_outHead_80 : decode cX10_outHead 80 = .ok (.aload_n 0, 1) := by decide +kernel
theorem dX10_outHead_81 : decode cX10_outHead 81 = .ok (.bipush 83, 2) := by decide +kernel
theorem dX10_outHead_83 : decode cX10_outHead 83 = .ok (.bipush 9, 2) := by decide +kernel
theorem dX10_outHead_85 : decode cX10_outHead 85 = .ok (.bipush 73, 2) := by decide +kernel
theorem dX10_outHead_87 : decode cX10_outHead 87 = .ok (.bipush 68, 2) := by decide +kernel
theorem dX10_outHead_89 : decode cX10_outHead 89 = .ok (.bipush 9, 2) := by decide +kernel
theorem dX10_outHead_91 : decode cX10_outHead 91 = .ok (.bipush 82, 2) := by decide +kernel
theorem dX10_outHead_93 : decode cX10_outHead 93 = .ok (.invokevirtual 238, 3) := by decide +kernel
theorem dX10_outHead_96 : decode cX10_outHead 96 = .ok (.aload_n 0, 1) := by decide +kernel
theorem dX10_outHead_97 : decode cX10_outHead 97 = .ok (.bipush 69, 2) := by decide +kernel
theorem dX10_outHead_99 : decode cX10_outHead 99 = .ok (.bipush 70, 2) := by decide +kernel
theorem dX10_outHead_101 : decode cX10_outHead 101 = .ok (.bipush 9, 2) := by decide +kernel
theorem dX10_outHead_103 : decode cX10_outHead 103 = .ok (.bipush 65, 2) := by decide +kernel
theorem dX10_outHead_105 : decode cX10_outHead 105 = .ok (.bipush 76, 2) := by decide +kernel
theorem dX10_outHead_107 : decode cX10_outHead 107 = .ok (.bipush 84, 2) := by decide +kernel
theorem dX10_outHead_109 : decode cX10_outHead 109 = .ok (.invokevirtual 238, 3) := by decide +kernel
theorem dX10_outHead_112 : decode cX10_outHead 112 = .ok (.aload_n 0, 1) := by decide +kernel
theorem dX10_outHead_113 : decode cX10_outHead 113 = .ok (.bipush 9, 2) := by decide +kernel
theorem dX10_outHead_115 : decode cX10_outHead 115 = .ok (.bipush 81, 2) := by decide +kernel
theorem dX10_outHead_117 : decode cX10_outHead 117 = .ok (.bipush 85, 2) := by decide +kernel
theorem dX10_outHead_119 : decode cX10_outHead 119 = .ok (.bipush 65, 2) := by decide +kernel
theorem dX10_outHead_121 : decode cX10_outHead 121 = .ok (.bipush 76, 2) := by decide +kernel
theorem dX10_outHead_123 : decode cX10_outHead 123 = .ok (.bipush 9, 2) := by decide +kernel
theorem dX10_outHead_125 : decode cX10_outHead 125 = .ok (.invokevirtual 238, 3) := by decide +kernel
theorem dX10_outHead_128 : decode cX10_outHead 128 = .ok (.aload_n 0, 1) := by decide +kernel
theorem dX10_outHead_129 : decode cX10_outHead 129 = .ok (.bipush 70, 2) := by decide +kernel
theorem dX10_outHead_131 : decode cX10_outHead 131 = .ok (.bipush 73, 2) := by decide +kernel
theorem dX10_outHead_133 : decode cX10_outHead 133 = .ok (.bipush 76, 2) := by decide +kernel
theorem dX10_outHead_135 : decode cX10_outHead 135 = .ok (.bipush 84, 2) := by decide +kernel
theorem dX10_outHead_137 : decode cX10_outHead 137 = .ok (.bipush 69, 2) := by decide +kernel
theorem dX10_outHead_139 : decode cX10_outHead 139 = .ok (.bipush 82, 2) := by decide +kernel
theorem dX10_outHead_141 : decode cX10_outHead 141 = .ok (.invokevirtual 238, 3) := by decide +kernel
theorem dX10_outHead_144 : decode cX10_outHead 144 = .ok (.aload_n 0, 1) := by decide +kernel
theorem dX10_outHead_145 : decode cX10_outHead 145 = .ok (.bipush 9, 2) := by decide +kernel
theorem dX10_outHead_147 : decode cX10_outHead 147 = .ok (.bipush 73, 2) := by decide +kernel
theorem dX10_outHead_149 : decode cX10_outHead 149 = .ok (.bipush 78, 2) := by decide +kernel
theorem dX10_outHead_151 : decode cX10_outHead 151 = .ok (.bipush 70, 2) := by decide +kernel
theorem dX10_outHead_153 : decode cX10_outHead 153 = .ok (.bipush 79, 2) := by decide +kernel
theorem dX10_outHead_155 : decode cX10_outHead 155 = .ok (.bipush 9, 2) := by decide +kernel
theorem dX10_outHead_157 : decode cX10_outHead 157 = .ok (.invokevirtual 238, 3) := by decide +kernel
theorem dX10_outHead_160 : decode cX10_outHead 160 = .ok (.aload_n 0, 1) := by decide +kernel
theorem dX10_outHead_161 : decode cX10_outHead 161 = .ok (.bipush 70, 2) := by decide +kernel
theorem dX10_outHead_163 : decode cX10_outHead 163 = .ok (.bipush 79, 2) := by decide +kernel
theorem dX10_outHead_165 : decode cX10_outHead 165 = .ok (.bipush 82, 2) := by decide +kernel
theorem dX10_outHead_167 : decode cX10_outHead 167 = .ok (.bipush 77, 2) := by decide +kernel
theorem dX10_outHead_169 : decode cX10_outHead 169 = .ok (.bipush 65, 2) := by decide +kernel
theorem dX10_outHead_171 : decode cX10_outHead 171 = .ok (.bipush 84, 2) := by decide +kernel
theorem dX10_outHead_173 : decode cX10_outHead 173 = .ok (.invokevirtual 238, 3) := by decide +kernel
theorem dX10_outHead_176 : decode cX10_outHead 176 = .ok (.aload_n 0, 1) := by decide +kernel
theorem dX10_outHead_177 : decode cX10_outHead 177 = .ok (.bipush 9, 2) := by decide +kernel
theorem dX10_outHead_179 : decode cX10_outHead 179 = .ok (.bipush 83, 2) := by decide +kernel
theorem dX10_outHead_181 : decode cX10_outHead 181 = .ok (.bipush 10, 2) := by decide +kernel
theorem dX10_outHead_183 : decode cX10_outHead 183 = .ok (.iconst 0, 1) := by decide +kernel
theorem dX10_outHead_184 : decode cX10_outHead 184 = .ok (.iconst 0, 1) := by decide +kernel
theorem dX10_outHead_185 : decode cX10_outHead 185 = .ok (.iconst 0, 1) := by decide +kernel
theorem dX10_outHead_186 : decode cX10_outHead 186 = .ok (.invokevirtual 238, 3) := by decide +kernel
theorem dX10_outHead_189 : decode cX10_outHead 189 = .ok (.return_, 1) := by decide +kernel
theorem dX10_outLine_0 : decode cX10_outLine 0 = .ok (.aload_n 0, 1) := by decide +kernel
theorem dX10_outLine_1 : decode cX10_outLine 1 = .ok (.invokevirtual 248, 3) := by decide +kernel
theorem dX10_outLine_4 : decode cX10_outLine 4 = .ok (.istore_n 1, 1) := by decide +kernel
theorem dX10_outLine_5 : decode cX10_outLine 5 = .ok (.aload_n 0, 1) := by decide +kernel
theorem dX10_outLine_6 : decode cX10_outLine 6 = .ok (.getfield 86, 3) := by decide +kernel
theorem dX10_outLine_9 : decode cX10_outLine 9 = .ok (.aload_n 0, 1) := by decide +kernel
theorem dX10_outLine_10 : decode cX10_outLine 10 = .ok (.getfield 188, 3) := by decide +kernel
theorem dX10_outLine_13 : decode cX10_outLine 13 = .ok (.iaload, 1) := by decide +kernel
theorem dX10_outLine_14 : decode cX10_outLine 14 = .ok (.istore_n 2, 1) := by decide +kernel
theorem dX10_outLine_15 : decode cX10_outLine 15 = .ok (.iconst 0, 1) := by decide +kernel
theorem dX10_outLine_16 : decode cX10_outLine 16 = .ok (.istore_n 3, 1) := by decide +kernel
theorem dX10_outLine_17 : decode cX10_outLine 17 = .ok (.iload_n 3, 1) := by decide +kernel
theorem dX10_outLine_18 : decode cX10_outLine 18 = .ok (.aload_n 0, 1) := by decide +kernel
theorem dX10_outLine_19 : decode cX10_outLine 19 = .ok (.getfield 116, 3) := by decide +kernel
theorem dX10_outLine_22 : decode cX10_outLine 22 = .ok (.if_icmp .ge 19, 3) := by decide +kernel
theorem dX10_outLine_25 : decode cX10_outLine 25 = .ok (.aload_n 0, 1) := by decide +kernel
theorem dX10_outLine_26 : decode cX10_outLine 26 = .ok (.aload_n 0, 1) := by decide +kernel
theorem dX10_outLine_27 : decode cX10_outLine 27 = .ok (.getfield 20, 3) := by decide +kernel
theorem dX10_outLine_30 : decode cX10_outLine 30 = .ok (.iload_n 3, 1) := by decide +kernel
theorem dX10_outLine_31 : decode cX10_outLine 31 = .ok (.caload, 1) := by decide +kernel
theorem dX10_outLine_32 : decode cX10_outLine 32 = .ok (.invokevirtual 232, 3) := by decide +kernel
theorem dX10_outLine_35 : decode cX10_outLine 35 = .ok (.iinc 3 1, 3) := by decide +kernel
theorem dX10_outLine_38 : decode cX10_outLine 38 = .ok (.goto (-21), 3) := by decide +kernel
theorem dX10_outLine_41 : decode cX10_outLine 41 = .ok (.aload_n 0, 1) := by decide +kernel
theorem dX10_outLine_42 : decode cX10_outLine 42 = .ok (.bipush 9, 2) := by decide +kernel
theorem dX10_outLine_44 : decode cX10_outLine 44 = .ok (.invokevirtual 232, 3) := by decide +kernel
theorem dX10_outLine_47 : decode cX10_outLine 47 = .ok (.aload_n 0, 1) := by decide +kernel
theorem dX10_outLine_48 : decode cX10_outLine 48 = .ok (.aload_n 0, 1) := by decide +kernel
theorem dX10_outLine_49 : decode cX10_outLine 49 = .ok (.getfield 173, 3) := by decide +kernel
theorem dX10_outLine_52 : decode cX10_outLine 52 = .ok (.iconst 1, 1) := by decide +kernel
theorem dX10_outLine_53 : decode cX10_outLine 53 = .ok (.iadd, 1) := by decide +kernel
theorem dX10_outLine_54 : decode cX10_outLine 54 = .ok (.invokevirtual 251, 3) := by decide +kernel
theorem dX10_outLine_57 : decode cX10_outLine 57 = .ok (.aload_n 0, 1) := by decide +kernel
theorem dX10_outLine_58 : decode cX10_outLine 58 = .ok (.bipush 9, 2) := by decide +kernel
theorem dX10_outLine_60 : decode cX10_outLine 60 = .ok (.bipush 46, 2) := by decide +kernel
theorem dX10_outLine_62 : decode cX10_outLine 62 = .ok (.bipush 9, 2) := by decide +kernel
theorem dX10_outLine_64 : decode cX10_outLine 64 = .ok (.iconst 0, 1) := by decide +kernel
theorem dX10_outLine_65 : decode cX10_outLine 65 = .ok (.iconst 0, 1) := by decide +kernel
theorem dX10_outLine_66 : decode cX10_outLine 66 = .ok (.iconst 0, 1) := by decide +kernel
theorem dX10_outLine_67 : decode cX10_outLine 67 = .ok (.invokevirtual 238, 3) := by decide +kernel
theorem dX10_outLine_70 : decode cX10_outLine 70 = .ok (.aload_n 0, 1) := by decide +kernel
theorem dX10_outLine_71 : decode cX10_outLine 71 = .ok (.aload_n 0, 1) := by decide +kernel
theorem dX10_outLine_72 : decode cX10_outLine 72 = .ok (.getfield 173, 3) := by decide +kernel
theorem dX10_outLine_75 : decode cX10_outLine 75 = .ok (.aload_n 0, 1) := by decide +kernel
theorem dX10_outLine_76 : decode cX10_outLine 76 = .ok (.getfield 173, 3) := by decide +kernel
theorem dX10_outLine_79 : decode cX10_outLine 79 = .ok (.iload_n 1, 1) := by decide +kernel
theorem dX10_outLine_80 : decode cX10_outLine 80 = .ok (.iadd, 1) := by decide +kernel
theorem dX10_outLine_81 : decode cX10_outLine 81 = .ok (.invokevirtual 245, 3) := by decide +kernel
theorem dX10_outLine_84 : decode cX10_outLine 84 = .ok (.aload_n 0, 1) := by decide +kernel
theorem dX10_outLine_85 : decode cX10_outLine 85 = .ok (.bipush 9, 2) := by decide +kernel
theorem dX10_outLine_87 : decode cX10_outLine 87 = .ok (.invokevirtual 232, 3) := by decide +kernel
theorem dX10_outLine_90 : decode cX10_outLine 90 = .ok (.iconst 1, 1) := by decide +kernel
theorem dX10_outLine_91 : decode cX10_outLine 91 = .ok (.istore_n 3, 1) := by decide +kernel
theorem dX10_outLine_92 : decode cX10_outLine 92 = .ok (.iload_n 3, 1) := by decide +kernel
theorem dX10_outLine_93 : decode cX10_outLine 93 = .ok (.aload_n 0, 1) := by decide +kernel
theorem dX10_outLine_94 : decode cX10_outLine 94 = .ok (.getfield 153, 3) := by decide +kernel
theorem dX10_outLine_97 : decode cX10_outLine 97 = .ok (.if_icmp .ge 15, 3) := by decide +kernel
theorem dX10_outLine_100 : decode cX10_outLine 100 = .ok (.aload_n 0, 1) := by decide +kernel
theorem dX10_outLine_101 : decode cX10_outLine 101 = .ok (.iload_n 3, 1) := by decide +kernel
theorem dX10_outLine_102 : decode cX10_outLine 102 = .ok (.iload_n 1, 1) := by decide +kernel
theorem dX10_outLine_103 : decode cX10_outLine 103 = .ok (.invokevirtual 254, 3) := by decide +kernel
theorem dX10_outLine_106 : decode cX10_outLine 106 = .ok (.iinc 3 1, 3) := by decide +kernel
theorem dX10_outLine_109 : decode cX10_outLine 109 = .ok (.goto (-17), 3) := by decide +kernel
theorem dX10_outLine_112 : decode cX10_outLine 112 = .ok (.aload_n 0, 1) := by decide +kernel
theorem dX10_outLine_113 : decode cX10_outLine 113 = .ok (.bipush 9, 2) := by decide +kernel
theorem dX10_outLine_115 : decode cX10_outLine 115 = .ok (.invokevirtual 232, 3) := by decide +kernel
theorem dX10_outLine_118 : decode cX10_outLine 118 = .ok (.aload_n 0, 1) := by decide +kernel
theorem dX10_outLine_119 : decode cX10_outLine 119 = .ok (.aload_n 0, 1) := by decide +kernel
theorem dX10_outLine_120 : decode cX10_outLine 120 = .ok (.getfield 86, 3) := by decide +kernel
theorem dX10_outLine_123 : decode cX10_outLine 123 = .ok (.iconst 0, 1) := by decide +kernel
theorem dX10_outLine_124 : decode cX10_outLine 124 = .ok (.iaload, 1) := by decide +kernel
theorem dX10_outLine_125 : decode cX10_outLine 125 = .ok (.iload_n 2, 1) := by decide +kernel
theorem dX10_outLine_126 : decode cX10_outLine 126 = .ok (.isub, 1) := by decide +kernel
theorem dX10_outLine_127 : decode cX10_outLine 127 = .ok (.sipush 999, 3) := by decide +kernel
theorem dX10_outLine_130 : decode cX10_outLine 130 = .ok (.if_icmp .le 9, 3) := by decide +kernel
theorem dX10_outLine_133 : decode cX10_outLine 133 = .ok (.sipush 999, 3) := by decide +kernel
theorem dX10_outLine_136 : decode cX10_outLine 136 = .ok (.goto 11, 3) := by decide +kernel
theorem dX10_outLine_139 : decode cX10_outLine 139 = .ok (.aload_n 0, 1) := by decide +kernel
theorem dX10_outLine_140 : decode cX10_outLine 140 = .ok (.getfield 86, 3) := by decide +kernel
theorem dX10_outLine_143 : decode cX10_outLine 143 = .ok (.iconst 0, 1) := by decide +kernel
theorem dX10_outLine_144 : decode cX10_outLine 144 = .ok (.iaload, 1) := by decide +kernel
theorem dX10_outLine_145 : decode cX10_outLine 145 = .ok (.iload_n 2, 1) := by decide +kernel
theorem dX10_outLine_146 : decode cX10_outLine 146 = .ok (.isub, 1) := by decide +kernel
theorem dX10_outLine_147 : decode cX10_outLine 147 = .ok (.invokevirtual 251, 3) := by decide +kernel
theorem dX10_outLine_150 : decode cX10_outLine 150 = .ok (.aload_n 0, 1) := by decide +kernel
theorem dX10_outLine_151 : decode cX10_outLine 151 = .ok (.bipush 9, 2) := by decide +kernel
theorem dX10_outLine_153 : decode cX10_outLine 153 = .ok (.bipush 46, 2) := by decide +kernel
theorem dX10_outLine_155 : decode cX10_outLine 155 = .ok (.bipush 9, 2) := by decide +kernel
theorem dX10_outLine_157 : decode cX10_outLine 157 = .ok (.bipush 46, 2) := by decide +kernel
theorem dX10_outLine_159 : decode cX10_outLine 159 = .ok (.bipush 9, 2) := by decide +kernel
theorem dX10_outLine_161 : decode cX10_outLine 161 = .ok (.iconst 0, 1) := by decide +kernel
theorem dX10_outLine_162 : decode cX10_outLine 162 = .ok (.invokevirtual 238, 3) := by decide +kernel
theorem dX10_outLine_165 : decode cX10_outLine 165 = .ok (.aload_n 0, 1) := by decide +kernel
theorem dX10_outLine_166 : decode cX10_outLine 166 = .ok (.bipush 71, 2) := by decide +kernel
theorem dX10_outLine_168 : decode cX10_outLine 168 = .ok (.bipush 84, 2) := by decide +kernel
theorem dX10_outLine_170 : decode cX10_outLine 170 = .ok (.bipush 58, 2) := by decide +kernel
theorem dX10_outLine_172 : decode cX10_outLine 172 = .ok (.bipush 68, 2) := by decide +kernel
theorem dX10_outLine_174 : decode cX10_outLine 174 = .ok (.bipush 80, 2) := by decide +kernel
theorem dX10_outLine_176 : decode cX10_outLine 176 = .ok (.bipush 58, 2) := by decide +kernel
theorem dX10_outLine_178 : decode cX10_outLine 178 = .ok (.invokevirtual 238, 3) := by decide +kernel
theorem dX10_outLine_181 : decode cX10_outLine 181 = .ok (.aload_n 0, 1) := by decide +kernel
theorem dX10_outLine_182 : decode cX10_outLine 182 = .ok (.bipush 65, 2) := by decide +kernel
theorem dX10_outLine_184 : decode cX10_outLine 184 = .ok (.bipush 68, 2) := by decide +kernel
theorem dX10_outLine_186 : decode cX10_outLine 186 = .ok (.bipush 58, 2) := by decide +kernel
theorem dX10_outLine_188 : decode cX10_outLine 188 = .ok (.bipush 80, 2) := by decide +kernel
theorem dX10_outLine_190 : decode cX10_outLine 190 = .ok (.bipush 76, 2) := by decide +kernel
theorem dX10_outLine_192 : decode cX10_outLine 192 = .ok (.bipush 9, 2) := by decide +kernel
theorem dX10_outLine_194 : decode cX10_outLine 194 = .ok (.invokevirtual 238, 3) := by decide +kernel
theorem dX10_outLine_197 : decode cX10_outLine 197 = .ok (.aload_n 0, 1) := by decide +kernel
theorem dX10_outLine_198 : decode cX10_outLine 198 = .ok (.bipush 48, 2) := by decide +kernel
theorem dX10_outLine_200 : decode cX10_outLine 200 = .ok (.aload_n 0, 1) := by decide +kernel
theorem dX10_outLine_201 : decode cX10_outLine 201 = .ok (.getfield 188, 3) := by decide +kernel
theorem dX10_outLine_204 : decode cX10_outLine 204 = .ok (.invokestatic 156, 3) := by decide +kernel
theorem dX10_outLine_207 : decode cX10_outLine 207 = .ok (.iadd, 1) := by decide +kernel
theorem dX10_outLine_208 : decode cX10_outLine 208 = .ok (.bipush 47, 2) := by decide +kernel
theorem dX10_outLine_210 : decode cX10_outLine 210 = .ok (.bipush 48, 2) := by decide +kernel
theorem dX10_outLine_212 : decode cX10_outLine 212 = .ok (.aload_n 0, 1) := by decide +kernel
theorem dX10_outLine_213 : decode cX10_outLine 213 = .ok (.getfield 188, 3) := by decide +kernel
theorem dX10_outLine_216 : decode cX10_outLine 216 = .ok (.invokestatic 160, 3) := by decide +kernel
theorem dX10_outLine_219 : decode cX10_outLine 219 = .ok (.iadd, 1) := by decide +kernel
theorem dX10_outLine_220 : decode cX10_outLine 220 = .ok (.bipush 58, 2) := by decide +kernel
theorem dX10_outLine_222 : decode cX10_outLine 222 = .ok (.iconst 0, 1) := by decide +kernel
theorem dX10_outLine_223 : decode cX10_outLine 223 = .ok (.iconst 0, 1) := by decide +kernel
theorem dX10_outLine_224 : decode cX10_outLine 224 = .ok (.invokevirtual 238, 3) := by decide +kernel
theorem dX10_outLine_227 : decode cX10_outLine 227 = .ok (.aload_n 0, 1) := by decide +kernel
theorem dX10_outLine_228 : decode cX10_outLine 228 = .ok (.aload_n 0, 1) := by decide +kernel
theorem dX10_outLine_229 : decode cX10_outLine 229 = .ok (.getfield 179, 3) := by decide +kernel
theorem dX10_outLine_232 : decode cX10_outLine 232 = .ok (.invokevirtual 251, 3) := by decide +kernel
theorem dX10_outLine_235 : decode cX10_outLine 235 = .ok (.iconst 0, 1) := by decide +kernel
theorem dX10_outLine_236 : decode cX10_outLine 236 = .ok (.istore_n 3, 1) := by decide +kernel
theorem dX10_outLine_237 : decode cX10_outLine 237 = .ok (.iload_n 3, 1) := by decide +kernel
theorem dX10_outLine_238 : decode cX10_outLine 238 = .ok (.aload_n 0, 1) := by decide +kernel
theorem dX10_outLine_239 : decode cX10_outLine 239 = .ok (.getfield 153, 3) := by decide +kernel
theorem dX10_outLine_242 : decode cX10_outLine 242 = .ok (.if_icmp .ge 39, 3) := by decide +kernel
theorem dX10_outLine_245 : decode cX10_outLine 245 = .ok (.aload_n 0, 1) := by decide +kernel
theorem dX10_outLine_246 : decode cX10_outLine 246 = .ok (.iload_n 3, 1) := by decide +kernel
theorem dX10_outLine_247 : decode cX10_outLine 247 = .ok (.ifCond .ne 8, 3) := by decide +kernel
theorem dX10_outLine_250 : decode cX10_outLine 250 = .ok (.bipush 58, 2) := by decide +kernel
theorem dX10_outLine_252 : decode cX10_outLine 252 = .ok (.goto 5, 3) := by decide +kernel
theorem dX10_outLine_255 : decode cX10_outLine 255 = .ok (.bipush 44, 2) := by decide +kernel
theorem dX10_outLine_257 : decode cX10_outLine 257 = .ok (.invokevirtual 232, 3) := by decide +kernel
theorem dX10_outLine_260 : decode cX10_outLine 260 = .ok (.aload_n 0, 1) := by decide +kernel
theorem dX10_outLine_261 : decode cX10_outLine 261 = .ok (.aload_n 0, 1) := by decide +kernel
theorem dX10_outLine_262 : decode cX10_outLine 262 = .ok (.getfield 83, 3) := by decide +kernel
theorem dX10_outLine_265 : decode cX10_outLine 265 = .ok (.aload_n 0, 1) := by decide +kernel
theorem dX10_outLine_266 : decode cX10_outLine 266 = .ok (.getfield 80, 3) := by decide +kernel
theorem dX10_outLine_269 : decode cX10_outLine 269 = .ok (.iload_n 3, 1) := by decide +kernel
theorem dX10_outLine_270 : decode cX10_outLine 270 = .ok (.iaload, 1) := by decide +kernel
theorem dX10_outLine_271 : decode cX10_outLine 271 = .ok (.iaload, 1) := by decide +kernel
theorem dX10_outLine_272 : decode cX10_outLine 272 = .ok (.invokevirtual 251, 3) := by decide +kernel
theorem dX10_outLine_275 : decode cX10_outLine 275 = .ok (.iinc 3 1, 3) := by decide +kernel
theorem dX10_outLine_278 : decode cX10_outLine 278 = .ok (.goto (-41), 3) := by decide +kernel
theorem dX10_outLine_281 : decode cX10_outLine 281 = .ok (.iconst 0, 1) := by decide +kernel
theorem dX10_outLine_282 : decode cX10_outLine 282 = .ok (.istore_n 3, 1) := by decide +kernel
theorem dX10_outLine_283 : decode cX10_outLine 283 = .ok (.iload_n 3, 1) := by decide +kernel
theorem dX10_outLine_284 : decode cX10_outLine 284 = .ok (.aload_n 0, 1) := by decide +kernel
theorem dX10_outLine_285 : decode cX10_outLine 285 = .ok (.getfield 185, 3) := by decide +kernel
theorem dX10_outLine_288 : decode cX10_outLine 288 = .ok (.if_icmp .ge 56, 3) := by decide +kernel
theorem dX10_outLine_291 : decode cX10_outLine 291 = .ok (.aload_n 0, 1) := by decide +kernel
theorem dX10_outLine_292 : decode cX10_outLine 292 = .ok (.iload_n 3, 1) := by decide +kernel
theorem dX10_outLine_293 : decode cX10_outLine 293 = .ok (.ifCond .ne 8, 3) := by decide +kernel
theorem dX10_outLine_296 : decode cX10_outLine 296 = .ok (.bipush 58, 2) := by decide +kernel
theorem dX10_outLine_298 : decode cX10_outLine 298 = .ok (.goto 5, 3) := by decide +kernel
theorem dX10_outLine_301 : decode cX10_outLine 301 = .ok (.bipush 44, 2) := by decide +kernel
theorem dX10_outLine_303 : decode cX10_outLine 303 = .ok (.invokevirtual 232, 3) := by decide +kernel
theorem dX10_outLine_306 : decode cX10_outLine 306 = .ok (.aload_n 0, 1) := by decide +kernel
theorem dX10_outLine_307 : decode cX10_outLine 307 = .ok (.aload_n 0, 1) := by decide +kernel
theorem dX10_outLine_308 : decode cX10_outLine 308 = .ok (.getfield 86, 3) := by decide +kernel
theorem dX10_outLine_311 : decode cX10_outLine 311 = .ok (.iload_n 3, 1) := by decide +kernel
theorem dX10_outLine_312 : decode cX10_outLine 312 = .ok (.iaload, 1) := by decide +kernel
theorem dX10_outLine_313 : decode cX10_outLine 313 = .ok (.iload_n 2, 1) := by decide +kernel
theorem dX10_outLine_314 : decode cX10_outLine 314 = .ok (.isub, 1) := by decide +kernel
theorem dX10_outLine_315 : decode cX10_outLine 315 = .ok (.sipush 255, 3) := by decide +kernel
theorem dX10_outLine_318 : decode cX10_outLine 318 = .ok (.if_icmp .le 9, 3) := by decide +kernel
theorem dX10_outLine_321 : decode cX10_outLine 321 = .ok (.sipush 255, 3) := by decide +kernel
theorem dX10_outLine_324 : decode cX10_outLine 324 = .ok (.goto 11, 3) := by decide +kernel
theorem dX10_outLine_327 : decode cX10_outLine 327 = .ok (.aload_n 0, 1) := by decide +kernel
theorem dX10_outLine_328 : decode cX10_outLine 328 = .ok (.getfield 86, 3) := by decide +kernel
theorem dX10_outLine_331 : decode cX10_outLine 331 = .ok (.iload_n 3, 1) := by decide +kernel
theorem dX10_outLine_332 : decode cX10_outLine 332 = .ok (.iaload, 1) := by decide +kernel
theorem dX10_outLine_333 : decode cX10_outLine 333 = .ok (.iload_n 2, 1) := by decide +kernel
theorem dX10_outLine_334 : decode cX10_outLine 334 = .ok (.isub, 1) := by decide +kernel
theorem dX10_outLine_335 : decode cX10_outLine 335 = .ok (.invokevirtual 251, 3) := by decide +kernel
theorem dX10_outLine_338 : decode cX10_outLine 338 = .ok (.iinc 3 1, 3) := by decide +kernel
theorem dX10_outLine_341 : decode cX10_outLine 341 = .ok (.goto (-58), 3) := by decide +kernel
theorem dX10_outLine_344 : decode cX10_outLine 344 = .ok (.aload_n 0, 1) := by decide +kernel
theorem dX10_outLine_345 : decode cX10_outLine 345 = .ok (.bipush 10, 2) := by decide +kernel
theorem dX10_outLine_347 : decode cX10_outLine 347 = .ok (.invokevirtual 232, 3) := by decide +kernel
theorem dX10_outLine_350 : decode cX10_outLine 350 = .ok (.return_, 1) := by decide +kernel
theorem dX10_outNumber_0 : decode cX10_outNumber 0 = .ok (.iconst 1, 1) := by decide +kernel
theorem dX10_outNumber_1 : decode cX10_outNumber 1 = .ok (.istore_n 2, 1) := by decide +kernel
theorem dX10_outNumber_2 : decode cX10_outNumber 2 = .ok (.iload_n 2, 1) := by decide +kernel
theorem dX10_outNumber_3 : decode cX10_outNumber 3 = .ok (.iload_n 1, 1) := by decide +kernel
theorem dX10_outNumber_4 : decode cX10_outNumber 4 = .ok (.bipush 10, 2) := by decide +kernel
theorem dX10_outNumber_6 : decode cX10_outNumber 6 = .ok (.idiv, 1) := by decide +kernel
theorem dX10_outNumber_7 : decode cX10_outNumber 7 = .ok (.if_icmp .gt 11, 3) := by decide +kernel
theorem dX10_outNumber_10 : decode cX10_outNumber 10 = .ok (.iload_n 2, 1) := by decide +kernel
theorem dX10_outNumber_11 : decode cX10_outNumber 11 = .ok (.bipush 10, 2) := by decide +kernel
theorem dX10_outNumber_13 : decode cX10_outNumber 13 = .ok (.imul, 1) := by decide +kernel
theorem dX10_outNumber_14 : decode cX10_outNumber 14 = .ok (.istore_n 2, 1) := by decide +kernel
theorem dX10_outNumber_15 : decode cX10_outNumber 15 = .ok (.goto (-13), 3) := by decide +kernel
theorem dX10_outNumber_18 : decode cX10_outNumber 18 = .ok (.iload_n 2, 1) := by decide +kernel
theorem dX10_outNumber_19 : decode cX10_outNumber 19 = .ok (.ifCond .le 24, 3) := by decide +kernel
theorem dX10_outNumber_22 : decode cX10_outNumber 22 = .ok (.aload_n 0, 1) := by decide +kernel
theorem dX10_outNumber_23 : decode cX10_outNumber 23 = .ok (.bipush 48, 2) := by decide +kernel
theorem dX10_outNumber_25 : decode cX10_outNumber 25 = .ok (.iload_n 1, 1) := by decide +kernel
theorem dX10_outNumber_26 : decode cX10_outNumber 26 = .ok (.iload_n 2, 1) := by decide +kernel
theorem dX10_outNumber_27 : decode cX10_outNumber 27 = .ok (.idiv, 1) := by decide +kernel
theorem dX10_outNumber_28 : decode cX10_outNumber 28 = .ok (.bipush 10, 2) := by decide +kernel
theorem dX10_outNumber_30 : decode cX10_outNumber 30 = .ok (.irem, 1) := by decide +kernel
theorem dX10_outNumber_31 : decode cX10_outNumber 31 = .ok (.iadd, 1) := by decide +kernel
theorem dX10_outNumber_32 : decode cX10_outNumber 32 = .ok (.invokevirtual 232, 3) := by decide +kernel
theorem dX10_outNumber_35 : decode cX10_outNumber 35 = .ok (.iload_n 2, 1) := by decide +kernel
theorem dX10_outNumber_36 : decode cX10_outNumber 36 = .ok (.bipush 10, 2) := by decide +kernel
theorem dX10_outNumber_38 : decode cX10_outNumber 38 = .ok (.idiv, 1) := by decide +kernel
theorem dX10_outNumber_39 : decode cX10_outNumber 39 = .ok (.istore_n 2, 1) := by decide +kernel
theorem dX10_outNumber_40 : decode cX10_outNumber 40 = .ok (.goto (-22), 3) := by decide +kernel
theorem dX10_outNumber_43 : decode cX10_outNumber 43 = .ok (.return_, 1) := by decide +kernel
theorem dX10_outSix_0 : decode cX10_outSix 0 = .ok (.aload_n 0, 1) := by decide +kernel
theorem dX10_outSix_1 : decode cX10_outSix 1 = .ok (.iload_n 1, 1) := by decide +kernel
theorem dX10_outSix_2 : decode cX10_outSix 2 = .ok (.invokevirtual 232, 3) := by decide +kernel
theorem dX10_outSix_5 : decode cX10_outSix 5 = .ok (.iload_n 2, 1) := by decide +kernel
theorem dX10_outSix_6 : decode cX10_outSix 6 = .ok (.ifCond .le 8, 3) := by decide +kernel
theorem dX10_outSix_9 : decode cX10_outSix 9 = .ok (.aload_n 0, 1) := by decide +kernel
theorem dX10_outSix_10 : decode cX10_outSix 10 = .ok (.iload_n 2, 1) := by decide +kernel
theorem dX10_outSix_11 : decode cX10_outSix 11 = .ok (.invokevirtual 232, 3) := by decide +kernel
theorem dX10_outSix_14 : decode cX10_outSix 14 = .ok (.iload_n 3, 1) := by decide +kernel
theorem dX10_outSix_15 : decode cX10_outSix 15 = .ok (.ifCond .le 8, 3) := by decide +kernel
theorem dX10_outSix_18 : decode cX10_outSix 18 = .ok (.aload_n 0, 1) := by decide +kernel
theorem dX10_outSix_19 : decode cX10_outSix 19 = .ok (.iload_n 3, 1) := by decide +kernel
theorem dX10_outSix_20 : decode cX10_outSix 20 = .ok (.invokevirtual 232, 3) := by decide +kernel
theorem dX10_outSix_23 : decode cX10_outSix 23 = .ok (.iload 4, 2) := by decide +kernel
theorem dX10_outSix_25 : decode cX10_outSix 25 = .ok (.ifCond .le 9, 3) := by decide +kernel
theorem dX10_outSix_28 : decode cX10_outSix 28 = .ok (.aload_n 0, 1) := by decide +kernel
theorem dX10_outSix_29 : decode cX10_outSix 29 = .ok (.iload 4, 2) := by decide +kernel
theorem dX10_outSix_31 : decode cX10_outSix 31 = .ok (.invokevirtual 232, 3) := by decide +kernel
theorem dX10_outSix_34 : decode cX10_outSix 34 = .ok (.iload 5, 2) := by decide +kernel
theorem dX10_outSix_36 : decode cX10_outSix 36 = .ok (.ifCond .le 9, 3) := by decide +kernel
theorem dX10_outSix_39 : decode cX10_outSix 39 = .ok (.aload_n 0, 1) := by decide +kernel
theorem dX10_outSix_40 : decode cX10_outSix 40 = .ok (.iload 5, 2) := by decide +kernel
theorem dX10_outSix_42 : decode cX10_outSix 42 = .ok (.invokevirtual 232, 3) := by decide +kernel
theorem dX10_outSix_45 : decode cX10_outSix 45 = .ok (.iload 6, 2) := by decide +kernel
theorem dX10_outSix_47 : decode cX10_outSix 47 = .ok (.ifCond .le 9, 3) := by decide +kernel
theorem dX10_outSix_50 : decode cX10_outSix 50 = .ok (.aload_n 0, 1) := by decide +kernel
theorem dX10_outSix_51 : decode cX10_outSix 51 = .ok (.iload 6, 2) := by decide +kernel
theorem dX10_outSix_53 : decode cX10_outSix 53 = .ok (.invokevirtual 232, 3) := by decide +kernel
theorem dX10_outSix_56 : decode cX10_outSix 56 = .ok (.return_, 1) := by decide +kernel
theorem dX10_outside_0 : decode cX10_outside 0 = .ok (.iload_n 0, 1) := by decide +kernel
theorem dX10_outside_1 : decode cX10_outside 1 = .ok (.iload_n 1, 1) := by decide +kernel
theorem dX10_outside_2 : decode cX10_outside 2 = .ok (.if_icmp .lt 8, 3) := by decide +kernel
theorem dX10_outside_5 : decode cX10_outside 5 = .ok (.iload_n 0, 1) := by decide +kernel
theorem dX10_outside_6 : decode cX10_outside 6 = .ok (.iload_n 2, 1) := by decide +kernel
theorem dX10_outside_7 : decode cX10_outside 7 = .ok (.if_icmp .le 7, 3) := by decide +kernel
theorem dX10_outside_10 : decode cX10_outside 10 = .ok (.iconst 1, 1) := by decide +kernel
theorem dX10_outside_11 : decode cX10_outside 11 = .ok (.goto 4, 3) := by decide +kernel
theorem dX10_outside_14 : decode cX10_outside 14 = .ok (.iconst 0, 1) := by decide +kernel
theorem dX10_outside_15 : decode cX10_outside 15 = .ok (.ireturn, 1) := by decide +kernel
theorem dX10_penaltyOf_0 : decode cX10_penaltyOf 0 = .ok (.iload_n 1, 1) := by decide +kernel
theorem dX10_penaltyOf_1 : decode cX10_penaltyOf 1 = .ok (.invokestatic 156, 3) := by decide +kernel
theorem dX10_penaltyOf_4 : decode cX10_penaltyOf 4 = .ok (.istore_n 2, 1) := by decide +kernel
theorem dX10_penaltyOf_5 : decode cX10_penaltyOf 5 = .ok (.iload_n 1, 1) := by decide +kernel
theorem dX10_penaltyOf_6 : decode cX10_penaltyOf 6 = .ok (.invokestatic 160, 3) := by decide +kernel
theorem dX10_penaltyOf_9 : decode cX10_penaltyOf 9 = .ok (.istore_n 3, 1) := by decide +kernel
theorem dX10_penaltyOf_10 : decode cX10_penaltyOf 10 = .ok (.iload_n 1, 1) := by decide +kernel
theorem dX10_penaltyOf_11 : decode cX10_penaltyOf 11 = .ok (.ifCond .ne 7, 3) := by decide +kernel
theorem dX10_penaltyOf_14 : decode cX10_penaltyOf 14 = .ok (.iconst 0, 1) := by decide +kernel
theorem dX10_penaltyOf_15 : decode cX10_penaltyOf 15 = .ok (.goto 24, 3) := by decide +kernel
theorem dX10_penaltyOf_18 : decode cX10_penaltyOf 18 = .ok (.iload_n 2, 1) := by decide +kernel
theorem dX10_penaltyOf_19 : decode cX10_penaltyOf 19 = .ok (.ifCond .ne 8, 3) := by decide +kernel
theorem dX10_penaltyOf_22 : decode cX10_penaltyOf 22 = .ok (.bipush 20, 2) := by decide +kernel
theorem dX10_penaltyOf_24 : decode cX10_penaltyOf 24 = .ok (.goto 15, 3) := by decide +kernel
theorem dX10_penaltyOf_27 : decode cX10_penaltyOf 27 = .ok (.iload_n 2, 1) := by decide +kernel
theorem dX10_penaltyOf_28 : decode cX10_penaltyOf 28 = .ok (.iload_n 3, 1) := by decide +kernel
theorem dX10_penaltyOf_29 : decode cX10_penaltyOf 29 = .ok (.if_icmp .ne 8, 3) := by decide +kernel
theorem dX10_penaltyOf_32 : decode cX10_penaltyOf 32 = .ok (.bipush 30, 2) := by decide +kernel
theorem dX10_penaltyOf_34 : decode cX10_penaltyOf 34 = .ok (.goto 5, 3) := by decide +kernel
theorem dX10_penaltyOf_37 : decode cX10_penaltyOf 37 = .ok (.bipush 40, 2) := by decide +kernel
theorem dX10_penaltyOf_39 : decode cX10_penaltyOf 39 = .ok (.istore 4, 2) := by decide +kernel
theorem dX10_penaltyOf_41 : decode cX10_penaltyOf 41 = .ok (.iconst 0, 1) := by decide +kernel
theorem dX10_penaltyOf_42 : decode cX10_penaltyOf 42 = .ok (.istore 5, 2) := by decide +kernel
theorem dX10_penaltyOf_44 : decode cX10_penaltyOf 44 = .ok (.iload 5, 2) := by decide +kernel
theorem dX10_penaltyOf_46 : decode cX10_penaltyOf 46 = .ok (.aload_n 0, 1) := by decide +kernel
theorem dX10_penaltyOf_47 : decode cX10_penaltyOf 47 = .ok (.invokevirtual 163, 3) := by decide +kernel
theorem dX10_penaltyOf_50 : decode cX10_penaltyOf 50 = .ok (.if_icmp .ge 105, 3) := by decide +kernel
theorem dX10_penaltyOf_53 : decode cX10_penaltyOf 53 = .ok (.aload_n 0, 1) := by decide +kernel
theorem dX10_penaltyOf_54 : decode cX10_penaltyOf 54 = .ok (.iload 5, 2) := by decide +kernel
theorem dX10_penaltyOf_56 : decode cX10_penaltyOf 56 = .ok (.invokevirtual 167, 3) := by decide +kernel
theorem dX10_penaltyOf_59 : decode cX10_penaltyOf 59 = .ok (.aload_n 0, 1) := by decide +kernel
theorem dX10_penaltyOf_60 : decode cX10_penaltyOf 60 = .ok (.getfield 80, 3) := by decide +kernel
theorem dX10_penaltyOf_63 : decode cX10_penaltyOf 63 = .ok (.iload_n 2, 1) := by decide +kernel
theorem dX10_penaltyOf_64 : decode cX10_penaltyOf 64 = .ok (.iaload, 1) := by decide +kernel
theorem dX10_penaltyOf_65 : decode cX10_penaltyOf 65 = .ok (.if_icmp .ne 7, 3) := by decide +kernel
theorem dX10_penaltyOf_68 : decode cX10_penaltyOf 68 = .ok (.iconst 1, 1) := by decide +kernel
theorem dX10_penaltyOf_69 : decode cX10_penaltyOf 69 = .ok (.goto 4, 3) := by decide +kernel
theorem dX10_penaltyOf_72 : decode cX10_penaltyOf 72 = .ok (.iconst 0, 1) := by decide +kernel
theorem dX10_penaltyOf_73 : decode cX10_penaltyOf 73 = .ok (.istore 6, 2) := by decide +kernel
theorem dX10_penaltyOf_75 : decode cX10_penaltyOf 75 = .ok (.aload_n 0, 1) := by decide +kernel
theorem dX10_penaltyOf_76 : decode cX10_penaltyOf 76 = .ok (.iload 5, 2) := by decide +kernel
theorem dX10_penaltyOf_78 : decode cX10_penaltyOf 78 = .ok (.invokevirtual 167, 3) := by decide +kernel
theorem dX10_penaltyOf_81 : decode cX10_penaltyOf 81 = .ok (.aload_n 0, 1) := by decide +kernel
theorem dX10_penaltyOf_82 : decode cX10_penaltyOf 82 = .ok (.getfield 80, 3) := by decide +kernel
theorem dX10_penaltyOf_85 : decode cX10_penaltyOf 85 = .ok (.iload_n 3, 1) := by decide +kernel
theorem dX10_penaltyOf_86 : decode cX10_penaltyOf 86 = .ok (.iaload, 1) := by decide +kernel
theorem dX10_penaltyOf_87 : decode cX10_penaltyOf 87 = .ok (.if_icmp .ne 7, 3) := by decide +kernel
theorem dX10_penaltyOf_90 : decode cX10_penaltyOf 90 = .ok (.iconst 1, 1) := by decide +kernel
theorem dX10_penaltyOf_91 : decode cX10_penaltyOf 91 = .ok (.goto 4, 3) := by decide +kernel
theorem dX10_penaltyOf_94 : decode cX10_penaltyOf 94 = .ok (.iconst 0, 1) := by decide +kernel
theorem dX10_penaltyOf_95 : decode cX10_penaltyOf 95 = .ok (.istore 7, 2) := by decide +kernel
theorem dX10_penaltyOf_97 : decode cX10_penaltyOf 97 = .ok (.aload_n 0, 1) := by decide +kernel
theorem dX10_penaltyOf_98 : decode cX10_penaltyOf 98 = .ok (.iload 5, 2) := by decide +kernel
theorem dX10_penaltyOf_100 : decode cX10_penaltyOf 100 = .ok (.invokevirtual 170, 3) := by decide +kernel
theorem dX10_penaltyOf_103 : decode cX10_penaltyOf 103 = .ok (.aload_n 0, 1) := by decide +kernel
theorem dX10_penaltyOf_104 : decode cX10_penaltyOf 104 = .ok (.getfield 173, 3) := by decide +kernel
theorem dX10_penaltyOf_107 : decode cX10_penaltyOf 107 = .ok (.if_icmp .ne 42, 3) := by decide +kernel
theorem dX10_penaltyOf_110 : decode cX10_penaltyOf 110 = .ok (.iload 4, 2) := by decide +kernel
theorem dX10_penaltyOf_112 : decode cX10_penaltyOf 112 = .ok (.iload 6, 2) := by decide +kernel
theorem dX10_penaltyOf_114 : decode cX10_penaltyOf 114 = .ok (.ifCond .eq 12, 3) := by decide +kernel
theorem dX10_penaltyOf_117 : decode cX10_penaltyOf 117 = .ok (.iload 7, 2) := by decide +kernel
theorem dX10_penaltyOf_119 : decode cX10_penaltyOf 119 = .ok (.ifCond .eq 7, 3) := by decide +kernel
theorem dX10_penaltyOf_122 : decode cX10_penaltyOf 122 = .ok (.iconst 0, 1) := by decide +kernel
theorem dX10_penaltyOf_123 : decode cX10_penaltyOf 123 = .ok (.goto 23, 3) := by decide +kernel
theorem dX10_penaltyOf_126 : decode cX10_penaltyOf 126 = .ok (.iload 6, 2) := by decide +kernel
theorem dX10_penaltyOf_128 : decode cX10_penaltyOf 128 = .ok (.ifCond .ne 8, 3) := by decide +kernel
theorem dX10_penaltyOf_131 : decode cX10_penaltyOf 131 = .ok (.iload 7, 2) := by decide +kernel
theorem dX10_penaltyOf_133 : decode cX10_penaltyOf 133 = .ok (.ifCond .eq 7, 3) := by decide +kernel
theorem dX10_penaltyOf_136 : decode cX10_penaltyOf 136 = .ok (.iconst 3, 1) := by decide +kernel
theorem dX10_penaltyOf_137 : decode cX10_penaltyOf 137 = .ok (.goto 9, 3) := by decide +kernel
theorem dX10_penaltyOf_140 : decode cX10_penaltyOf 140 = .ok (.aload_n 0, 1) := by decide +kernel
theorem dX10_penaltyOf_141 : decode cX10_penaltyOf 141 = .ok (.iload 5, 2) := by decide +kernel
theorem dX10_penaltyOf_143 : decode cX10_penaltyOf 143 = .ok (.invokevirtual 176, 3) := by decide +kernel
theorem dX10_penaltyOf_146 : decode cX10_penaltyOf 146 = .ok (.iadd, 1) := by decide +kernel
theorem dX10_penaltyOf_147 : decode cX10_penaltyOf 147 = .ok (.istore 4, 2) := by decide +kernel
theorem dX10_penaltyOf_149 : decode cX10_penaltyOf 149 = .ok (.iinc 5 1, 3) := by decide +kernel
theorem dX10_penaltyOf_152 : decode cX10_penaltyOf 152 = .ok (.goto (-108), 3) := by decide +kernel
theorem dX10_penaltyOf_155 : decode cX10_penaltyOf 155 = .ok (.iload 4, 2) := by decide +kernel
theorem dX10_penaltyOf_157 : decode cX10_penaltyOf 157 = .ok (.ireturn, 1) := by decide +kernel
theorem dX10_place_0 : decode cX10_place 0 = .ok (.iload_n 1, 1) := by decide +kernel
theorem dX10_place_1 : decode cX10_place 1 = .ok (.iconst 0, 1) := by decide +kernel
theorem dX10_place_2 : decode cX10_place 2 = .ok (.aload_n 0, 1) := by decide +kernel
theorem dX10_place_3 : decode cX10_place 3 = .ok (.getfield 123, 3) := by decide +kernel
theorem dX10_place_6 : decode cX10_place 6 = .ok (.iconst 1, 1) := by decide +kernel
theorem dX10_place_7 : decode cX10_place 7 = .ok (.isub, 1) := by decide +kernel
theorem dX10_place_8 : decode cX10_place 8 = .ok (.invokestatic 89, 3) := by decide +kernel
theorem dX10_place_11 : decode cX10_place 11 = .ok (.ifCond .ne 25, 3) := by decide +kernel
theorem dX10_place_14 : decode cX10_place 14 = .ok (.iload_n 2, 1) := by decide +kernel
theorem dX10_place_15 : decode cX10_place 15 = .ok (.iconst 0, 1) := by decide +kernel
theorem dX10_place_16 : decode cX10_place 16 = .ok (.iconst 4, 1) := by decide +kernel
theorem dX10_place_17 : decode cX10_place 17 = .ok (.invokestatic 89, 3) := by decide +kernel
theorem dX10_place_20 : decode cX10_place 20 = .ok (.ifCond .ne 16, 3) := by decide +kernel
theorem dX10_place_23 : decode cX10_place 23 = .ok (.iload_n 2, 1) := by decide +kernel
theorem dX10_place_24 : decode cX10_place 24 = .ok (.ifCond .le 14, 3) := by decide +kernel
theorem dX10_place_27 : decode cX10_place 27 = .ok (.aload_n 0, 1) := by decide +kernel
theorem dX10_place_28 : decode cX10_place 28 = .ok (.getfield 32, 3) := by decide +kernel
theorem dX10_place_31 : decode cX10_place 31 = .ok (.iload_n 1, 1) := by decide +kernel
theorem dX10_place_32 : decode cX10_place 32 = .ok (.iaload, 1) := by decide +kernel
theorem dX10_place_33 : decode cX10_place 33 = .ok (.ifCond .eq 5, 3) := by decide +kernel
theorem dX10_place_36 : decode cX10_place 36 = .ok (.iconst (-1), 1) := by decide +kernel
theorem dX10_place_37 : decode cX10_place 37 = .ok (.ireturn, 1) := by decide +kernel
theorem dX10_place_38 : decode cX10_place 38 = .ok (.iload_n 2, 1) := by decide +kernel
theorem dX10_place_39 : decode cX10_place 39 = .ok (.ifCond .ne 12, 3) := by decide +kernel
theorem dX10_place_42 : decode cX10_place 42 = .ok (.aload_n 0, 1) := by decide +kernel
theorem dX10_place_43 : decode cX10_place 43 = .ok (.getfield 32, 3) := by decide +kernel
theorem dX10_place_46 : decode cX10_place 46 = .ok (.iload_n 1, 1) := by decide +kernel
theorem dX10_place_47 : decode cX10_place 47 = .ok (.iaload, 1) := by decide +kernel
theorem dX10_place_48 : decode cX10_place 48 = .ok (.goto 51, 3) := by decide +kernel
theorem dX10_place_51 : decode cX10_place 51 = .ok (.iload_n 2, 1) := by decide +kernel
theorem dX10_place_52 : decode cX10_place 52 = .ok (.iconst 1, 1) := by decide +kernel
theorem dX10_place_53 : decode cX10_place 53 = .ok (.if_icmp .ne 12, 3) := by decide +kernel
theorem dX10_place_56 : decode cX10_place 56 = .ok (.aload_n 0, 1) := by decide +kernel
theorem dX10_place_57 : decode cX10_place 57 = .ok (.getfield 35, 3) := by decide +kernel
theorem dX10_place_60 : decode cX10_place 60 = .ok (.iload_n 1, 1) := by decide +kernel
theorem dX10_place_61 : decode cX10_place 61 = .ok (.iaload, 1) := by decide +kernel
theorem dX10_place_62 : decode cX10_place 62 = .ok (.goto 37, 3) := by decide +kernel
theorem dX10_place_65 : decode cX10_place 65 = .ok (.iload_n 2, 1) := by decide +kernel
theorem dX10_place_66 : decode cX10_place 66 = .ok (.iconst 2, 1) := by decide +kernel
theorem dX10_place_67 : decode cX10_place 67 = .ok (.if_icmp .ne 12, 3) := by decide +kernel
theorem dX10_place_70 : decode cX10_place 70 = .ok (.aload_n 0, 1) := by decide +kernel
theorem dX10_place_71 : decode cX10_place 71 = .ok (.getfield 38, 3) := by decide +kernel
theorem dX10_place_74 : decode cX10_place 74 = .ok (.iload_n 1, 1) := by decide +kernel
theorem dX10_place_75 : decode cX10_place 75 = .ok (.iaload, 1) := by decide +kernel
theorem dX10_place_76 : decode cX10_place 76 = .ok (.goto 23, 3) := by decide +kernel
theorem dX10_place_79 : decode cX10_place 79 = .ok (.iload_n 2, 1) := by decide +kernel
theorem dX10_place_80 : decode cX10_place 80 = .ok (.iconst 3, 1) := by decide +kernel
theorem dX10_place_81 : decode cX10_place 81 = .ok (.if_icmp .ne 12, 3) := by decide +kernel
theorem dX10_place_84 : decode cX10_place 84 = .ok (.aload_n 0, 1) := by decide +kernel
theorem dX10_place_85 : decode cX10_place 85 = .ok (.getfield 41, 3) := by decide +kernel
theorem dX10_place_88 : decode cX10_place 88 = .ok (.iload_n 1, 1) := by decide +kernel
theorem dX10_place_89 : decode cX10_place 89 = .ok (.iaload, 1) := by decide +kernel
theorem dX10_place_90 : decode cX10_place 90 = .ok (.goto 9, 3) := by decide +kernel
theorem dX10_place_93 : decode cX10_place 93 = .ok (.aload_n 0, 1) := by decide +kernel
theorem dX10_place_94 : decode cX10_place 94 = .ok (.getfield 44, 3) := by decide +kernel
theorem dX10_place_97 : decode cX10_place 97 = .ok (.iload_n 1, 1) := by decide +kernel
theorem dX10_place_98 : decode cX10_place 98 = .ok (.iaload, 1) := by decide +kernel
theorem dX10_place_99 : decode cX10_place 99 = .ok (.ireturn, 1) := by decide +kernel
theorem dX10_placeOf_0 : decode cX10_placeOf 0 = .ok (.aload_n 0, 1) := by decide +kernel
theorem dX10_placeOf_1 : decode cX10_placeOf 1 = .ok (.getfield 149, 3) := by decide +kernel
theorem dX10_placeOf_4 : decode cX10_placeOf 4 = .ok (.ifCond .eq 12, 3) := by decide +kernel
theorem dX10_placeOf_7 : decode cX10_placeOf 7 = .ok (.aload_n 0, 1) := by decide +kernel
theorem dX10_placeOf_8 : decode cX10_placeOf 8 = .ok (.getfield 71, 3) := by decide +kernel
theorem dX10_placeOf_11 : decode cX10_placeOf 11 = .ok (.iload_n 1, 1) := by decide +kernel
theorem dX10_placeOf_12 : decode cX10_placeOf 12 = .ok (.iaload, 1) := by decide +kernel
theorem dX10_placeOf_13 : decode cX10_placeOf 13 = .ok (.goto 9, 3) := by decide +kernel
theorem dX10_placeOf_16 : decode cX10_placeOf 16 = .ok (.aload_n 0, 1) := by decide +kernel
theorem dX10_placeOf_17 : decode cX10_placeOf 17 = .ok (.getfield 62, 3) := by decide +kernel
theorem dX10_placeOf_20 : decode cX10_placeOf 20 = .ok (.iload_n 1, 1) := by decide +kernel
theorem dX10_placeOf_21 : decode cX10_placeOf 21 = .ok (.iaload, 1) := by decide +kernel
theorem dX10_placeOf_22 : decode cX10_placeOf 22 = .ok (.ireturn, 1) := by decide +kernel
theorem dX10_put_0 : decode cX10_put 0 = .ok (.iload_n 1, 1) := by decide +kernel
theorem dX10_put_1 : decode cX10_put 1 = .ok (.iconst 0, 1) := by decide +kernel
theorem dX10_put_2 : decode cX10_put 2 = .ok (.iconst 1, 1) := by decide +kernel
theorem dX10_put_3 : decode cX10_put 3 = .ok (.invokestatic 89, 3) := by decide +kernel
theorem dX10_put_6 : decode cX10_put 6 = .ok (.ifCond .ne 35, 3) := by decide +kernel
theorem dX10_put_9 : decode cX10_put 9 = .ok (.iload_n 3, 1) := by decide +kernel
theorem dX10_put_10 : decode cX10_put 10 = .ok (.iconst 1, 1) := by decide +kernel
theorem dX10_put_11 : decode cX10_put 11 = .ok (.iconst 4, 1) := by decide +kernel
theorem dX10_put_12 : decode cX10_put 12 = .ok (.invokestatic 89, 3) := by decide +kernel
theorem dX10_put_15 : decode cX10_put 15 = .ok (.ifCond .ne 26, 3) := by decide +kernel
theorem dX10_put_18 : decode cX10_put 18 = .ok (.aload_n 0, 1) := by decide +kernel
theorem dX10_put_19 : decode cX10_put 19 = .ok (.getfield 13, 3) := by decide +kernel
theorem dX10_put_22 : decode cX10_put 22 = .ok (.iload_n 1, 1) := by decide +kernel
theorem dX10_put_23 : decode cX10_put 23 = .ok (.iaload, 1) := by decide +kernel
theorem dX10_put_24 : decode cX10_put 24 = .ok (.iload_n 3, 1) := by decide +kernel
theorem dX10_put_25 : decode cX10_put 25 = .ok (.iadd, 1) := by decide +kernel
theorem dX10_put_26 : decode cX10_put 26 = .ok (.iload_n 1, 1) := by decide +kernel
theorem dX10_put_27 : decode cX10_put 27 = .ok (.ifCond .ne 8, 3) := by decide +kernel
theorem dX10_put_30 : decode cX10_put 30 = .ok (.bipush 100, 2) := by decide +kernel
theorem dX10_put_32 : decode cX10_put 32 = .ok (.goto 6, 3) := by decide +kernel
theorem dX10_put_35 : decode cX10_put 35 = .ok (.sipush 420, 3) := by decide +kernel
theorem dX10_put_38 : decode cX10_put 38 = .ok (.if_icmp .le 5, 3) := by decide +kernel
theorem dX10_put_41 : decode cX10_put 41 = .ok (.iconst 0, 1) := by decide +kernel
theorem dX10_put_42 : decode cX10_put 42 = .ok (.ireturn, 1) := by decide +kernel
theorem dX10_put_43 : decode cX10_put 43 = .ok (.iconst 0, 1) := by decide +kernel
theorem dX10_put_44 : decode cX10_put 44 = .ok (.istore 4, 2) := by decide +kernel
theorem dX10_put_46 : decode cX10_put 46 = .ok (.iload 4, 2) := by decide +kernel
theorem dX10_put_48 : decode cX10_put 48 = .ok (.iload_n 3, 1) := by decide +kernel
theorem dX10_put_49 : decode cX10_put 49 = .ok (.if_icmp .ge 43, 3) := by decide +kernel
theorem dX10_put_52 : decode cX10_put 52 = .ok (.iload_n 2, 1) := by decide +kernel
theorem dX10_put_53 : decode cX10_put 53 = .ok (.bipush 8, 2) := by decide +kernel
theorem dX10_put_55 : decode cX10_put 55 = .ok (.iload 4, 2) := by decide +kernel
theorem dX10_put_57 : decode cX10_put 57 = .ok (.imul, 1) := by decide +kernel
theorem dX10_put_58 : decode cX10_put 58 = .ok (.ishr, 1) := by decide +kernel
theorem dX10_put_59 : decode cX10_put 59 = .ok (.sipush 255, 3) := by decide +kernel
theorem dX10_put_62 : decode cX10_put 62 = .ok (.iand, 1) := by decide +kernel
theorem dX10_put_63 : decode cX10_put 63 = .ok (.istore 5, 2) := by decide +kernel
theorem dX10_put_65 : decode cX10_put 65 = .ok (.iload 5, 2) := by decide +kernel
theorem dX10_put_67 : decode cX10_put 67 = .ok (.bipush 10, 2) := by decide +kernel
theorem dX10_put_69 : decode cX10_put 69 = .ok (.if_icmp .eq 17, 3) := by decide +kernel
theorem dX10_put_72 : decode cX10_put 72 = .ok (.iload 5, 2) := by decide +kernel
theorem dX10_put_74 : decode cX10_put 74 = .ok (.bipush 32, 2) := by decide +kernel
theorem dX10_put_76 : decode cX10_put 76 = .ok (.bipush 126, 2) := by decide +kernel
theorem dX10_put_78 : decode cX10_put 78 = .ok (.invokestatic 89, 3) := by decide +kernel
theorem dX10_put_81 : decode cX10_put 81 = .ok (.ifCond .eq 5, 3) := by decide +kernel
theorem dX10_put_84 : decode cX10_put 84 = .ok (.iconst 0, 1) := by decide +kernel
theorem dX10_put_85 : decode cX10_put 85 = .ok (.ireturn, 1) := by decide +kernel
theorem dX10_put_86 : decode cX10_put 86 = .ok (.iinc 4 1, 3) := by decide +kernel
theorem dX10_put_89 : decode cX10_put 89 = .ok (.goto (-43), 3) := by decide +kernel
theorem dX10_put_92 : decode cX10_put 92 = .ok (.iload_n 3, 1) := by decide +kernel
theorem dX10_put_93 : decode cX10_put 93 = .ok (.iconst 1, 1) := by decide +kernel
theorem dX10_put_94 : decode cX10_put 94 = .ok (.isub, 1) := by decide +kernel
theorem dX10_put_95 : decode cX10_put 95 = .ok (.istore 4, 2) := by decide +kernel
theorem dX10_put_97 : decode cX10_put 97 = .ok (.iload 4, 2) := by decide +kernel
theorem dX10_put_99 : decode cX10_put 99 = .ok (.ifCond .lt 47, 3) := by decide +kernel
theorem dX10_put_102 : decode cX10_put 102 = .ok (.aload_n 0, 1) := by decide +kernel
theorem dX10_put_103 : decode cX10_put 103 = .ok (.getfield 7, 3) := by decide +kernel
theorem dX10_put_106 : decode cX10_put 106 = .ok (.bipush 100, 2) := by decide +kernel
theorem dX10_put_108 : decode cX10_put 108 = .ok (.iload_n 1, 1) := by decide +kernel
theorem dX10_put_109 : decode cX10_put 109 = .ok (.imul, 1) := by decide +kernel
theorem dX10_put_110 : decode cX10_put 110 = .ok (.aload_n 0, 1) := by decide +kernel
theorem dX10_put_111 : decode cX10_put 111 = .ok (.getfield 13, 3) := by decide +kernel
theorem dX10_put_114 : decode cX10_put 114 = .ok (.iload_n 1, 1) := by decide +kernel
theorem dX10_put_115 : decode cX10_put 115 = .ok (.iaload, 1) := by decide +kernel
theorem dX10_put_116 : decode cX10_put 116 = .ok (.iadd, 1) := by decide +kernel
theorem dX10_put_117 : decode cX10_put 117 = .ok (.iload_n 2, 1) := by decide +kernel
theorem dX10_put_118 : decode cX10_put 118 = .ok (.bipush 8, 2) := by decide +kernel
theorem dX10_put_120 : decode cX10_put 120 = .ok (.iload 4, 2) := by decide +kernel
theorem dX10_put_122 : decode cX10_put 122 = .ok (.imul, 1) := by decide +kernel
theorem dX10_put_123 : decode cX10_put 123 = .ok (.ishr, 1) := by decide +kernel
theorem dX10_put_124 : decode cX10_put 124 = .ok (.sipush 255, 3) := by decide +kernel
theorem dX10_put_127 : decode cX10_put 127 = .ok (.iand, 1) := by decide +kernel
theorem dX10_put_128 : decode cX10_put 128 = .ok (.i2c, 1) := by decide +kernel
theorem dX10_put_129 : decode cX10_put 129 = .ok (.castore, 1) := by decide +kernel
theorem dX10_put_130 : decode cX10_put 130 = .ok (.aload_n 0, 1) := by decide +kernel
theorem dX10_put_131 : decode cX10_put 131 = .ok (.getfield 13, 3) := by decide +kernel
theorem dX10_put_134 : decode cX10_put 134 = .ok (.iload_n 1, 1) := by decide +kernel
theorem dX10_put_135 : decode cX10_put 135 = .ok (.dup2, 1) := by decide +kernel
theorem dX10_put_136 : decode cX10_put 136 = .ok (.iaload, 1) := by decide +kernel
theorem dX10_put_137 : decode cX10_put 137 = .ok (.iconst 1, 1) := by decide +kernel
theorem dX10_put_138 : decode cX10_put 138 = .ok (.iadd, 1) := by decide +kernel
theorem dX10_put_139 : decode cX10_put 139 = .ok (.iastore, 1) := by decide +kernel
theorem dX10_put_140 : decode cX10_put 140 = .ok (.iinc 4 (-1), 3) := by decide +kernel
theorem dX10_put_143 : decode cX10_put 143 = .ok (.goto (-46), 3) := by decide +kernel
theorem dX10_put_146 : decode cX10_put 146 = .ok (.iconst 1, 1) := by decide +kernel
theorem dX10_put_147 : decode cX10_put 147 = .ok (.ireturn, 1) := by decide +kernel
theorem dX10_qualityAt_0 : decode cX10_qualityAt 0 = .ok (.aload_n 0, 1) := by decide +kernel
theorem dX10_qualityAt_1 : decode cX10_qualityAt 1 = .ok (.getfield 149, 3) := by decide +kernel
theorem dX10_qualityAt_4 : decode cX10_qualityAt 4 = .ok (.ifCond .eq 12, 3) := by decide +kernel
theorem dX10_qualityAt_7 : decode cX10_qualityAt 7 = .ok (.aload_n 0, 1) := by decide +kernel
theorem dX10_qualityAt_8 : decode cX10_qualityAt 8 = .ok (.getfield 77, 3) := by decide +kernel
theorem dX10_qualityAt_11 : decode cX10_qualityAt 11 = .ok (.iload_n 1, 1) := by decide +kernel
theorem dX10_qualityAt_12 : decode cX10_qualityAt 12 = .ok (.iaload, 1) := by decide +kernel
theorem dX10_qualityAt_13 : decode cX10_qualityAt 13 = .ok (.goto 9, 3) := by decide +kernel
theorem dX10_qualityAt_16 : decode cX10_qualityAt 16 = .ok (.aload_n 0, 1) := by decide +kernel
theorem dX10_qualityAt_17 : decode cX10_qualityAt 17 = .ok (.getfield 68, 3) := by decide +kernel
theorem dX10_qualityAt_20 : decode cX10_qualityAt 20 = .ok (.iload_n 1, 1) := by decide +kernel
theorem dX10_qualityAt_21 : decode cX10_qualityAt 21 = .ok (.iaload, 1) := by decide +kernel
theorem dX10_qualityAt_22 : decode cX10_qualityAt 22 = .ok (.ireturn, 1) := by decide +kernel
theorem dX10_reads_0 : decode cX10_reads 0 = .ok (.aload_n 0, 1) := by decide +kernel
theorem dX10_reads_1 : decode cX10_reads 1 = .ok (.getfield 123, 3) := by decide +kernel
theorem dX10_reads_4 : decode cX10_reads 4 = .ok (.ireturn, 1) := by decide +kernel

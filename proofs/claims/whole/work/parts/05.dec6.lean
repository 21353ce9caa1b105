theorem dX10_take_0 : decode cX10_take 0 = .ok (.aload_n 0, 1) := by decide +kernel
theorem dX10_take_1 : decode cX10_take 1 = .ok (.aload_n 0, 1) := by decide +kernel
theorem dX10_take_2 : decode cX10_take 2 = .ok (.iconst 0, 1) := by decide +kernel
theorem dX10_take_3 : decode cX10_take 3 = .ok (.iconst 0, 1) := by decide +kernel
theorem dX10_take_4 : decode cX10_take 4 = .ok (.invokevirtual 113, 3) := by decide +kernel
theorem dX10_take_7 : decode cX10_take 7 = .ok (.iconst 1, 1) := by decide +kernel
theorem dX10_take_8 : decode cX10_take 8 = .ok (.isub, 1) := by decide +kernel
theorem dX10_take_9 : decode cX10_take 9 = .ok (.putfield 116, 3) := by decide +kernel
theorem dX10_take_12 : decode cX10_take 12 = .ok (.iconst 0, 1) := by decide +kernel
theorem dX10_take_13 : decode cX10_take 13 = .ok (.istore_n 1, 1) := by decide +kernel
theorem dX10_take_14 : decode cX10_take 14 = .ok (.iload_n 1, 1) := by decide +kernel
theorem dX10_take_15 : decode cX10_take 15 = .ok (.aload_n 0, 1) := by decide +kernel
theorem dX10_take_16 : decode cX10_take 16 = .ok (.getfield 116, 3) := by decide +kernel
theorem dX10_take_19 : decode cX10_take 19 = .ok (.if_icmp .ge 23, 3) := by decide +kernel
theorem dX10_take_22 : decode cX10_take 22 = .ok (.aload_n 0, 1) := by decide +kernel
theorem dX10_take_23 : decode cX10_take 23 = .ok (.getfield 20, 3) := by decide +kernel
theorem dX10_take_26 : decode cX10_take 26 = .ok (.iload_n 1, 1) := by decide +kernel
theorem dX10_take_27 : decode cX10_take 27 = .ok (.aload_n 0, 1) := by decide +kernel
theorem dX10_take_28 : decode cX10_take 28 = .ok (.iconst 0, 1) := by decide +kernel
theorem dX10_take_29 : decode cX10_take 29 = .ok (.iconst 1, 1) := by decide +kernel
theorem dX10_take_30 : decode cX10_take 30 = .ok (.iload_n 1, 1) := by decide +kernel
theorem dX10_take_31 : decode cX10_take 31 = .ok (.iadd, 1) := by decide +kernel
theorem dX10_take_32 : decode cX10_take 32 = .ok (.invokevirtual 93, 3) := by decide +kernel
theorem dX10_take_35 : decode cX10_take 35 = .ok (.castore, 1) := by decide +kernel
theorem dX10_take_36 : decode cX10_take 36 = .ok (.iinc 1 1, 3) := by decide +kernel
theorem dX10_take_39 : decode cX10_take 39 = .ok (.goto (-25), 3) := by decide +kernel
theorem dX10_take_42 : decode cX10_take 42 = .ok (.aload_n 0, 1) := by decide +kernel
theorem dX10_take_43 : decode cX10_take 43 = .ok (.iconst 0, 1) := by decide +kernel
theorem dX10_take_44 : decode cX10_take 44 = .ok (.putfield 120, 3) := by decide +kernel
theorem dX10_take_47 : decode cX10_take 47 = .ok (.aload_n 0, 1) := by decide +kernel
theorem dX10_take_48 : decode cX10_take 48 = .ok (.getfield 116, 3) := by decide +kernel
theorem dX10_take_51 : decode cX10_take 51 = .ok (.iconst 2, 1) := by decide +kernel
theorem dX10_take_52 : decode cX10_take 52 = .ok (.iadd, 1) := by decide +kernel
theorem dX10_take_53 : decode cX10_take 53 = .ok (.istore_n 1, 1) := by decide +kernel
theorem dX10_take_54 : decode cX10_take 54 = .ok (.iload_n 1, 1) := by decide +kernel
theorem dX10_take_55 : decode cX10_take 55 = .ok (.aload_n 0, 1) := by decide +kernel
theorem dX10_take_56 : decode cX10_take 56 = .ok (.getfield 13, 3) := by decide +kernel
theorem dX10_take_59 : decode cX10_take 59 = .ok (.iconst 0, 1) := by decide +kernel
theorem dX10_take_60 : decode cX10_take 60 = .ok (.iaload, 1) := by decide +kernel
theorem dX10_take_61 : decode cX10_take 61 = .ok (.if_icmp .ge 48, 3) := by decide +kernel
theorem dX10_take_64 : decode cX10_take 64 = .ok (.aload_n 0, 1) := by decide +kernel
theorem dX10_take_65 : decode cX10_take 65 = .ok (.iconst 0, 1) := by decide +kernel
theorem dX10_take_66 : decode cX10_take 66 = .ok (.iload_n 1, 1) := by decide +kernel
theorem dX10_take_67 : decode cX10_take 67 = .ok (.invokevirtual 93, 3) := by decide +kernel
theorem dX10_take_70 : decode cX10_take 70 = .ok (.bipush 10, 2) := by decide +kernel
theorem dX10_take_72 : decode cX10_take 72 = .ok (.if_icmp .eq 31, 3) := by decide +kernel
theorem dX10_take_75 : decode cX10_take 75 = .ok (.aload_n 0, 1) := by decide +kernel
theorem dX10_take_76 : decode cX10_take 76 = .ok (.getfield 17, 3) := by decide +kernel
theorem dX10_take_79 : decode cX10_take 79 = .ok (.aload_n 0, 1) := by decide +kernel
theorem dX10_take_80 : decode cX10_take 80 = .ok (.getfield 120, 3) := by decide +kernel
theorem dX10_take_83 : decode cX10_take 83 = .ok (.aload_n 0, 1) := by decide +kernel
theorem dX10_take_84 : decode cX10_take 84 = .ok (.iconst 0, 1) := by decide +kernel
theorem dX10_take_85 : decode cX10_take 85 = .ok (.iload_n 1, 1) := by decide +kernel
theorem dX10_take_86 : decode cX10_take 86 = .ok (.invokevirtual 93, 3) := by decide +kernel
theorem dX10_take_89 : decode cX10_take 89 = .ok (.invokestatic 105, 3) := by decide +kernel
theorem dX10_take_92 : decode cX10_take 92 = .ok (.iastore, 1) := by decide +kernel
theorem dX10_take_93 : decode cX10_take 93 = .ok (.aload_n 0, 1) := by decide +kernel
theorem dX10_take_94 : decode cX10_take 94 = .ok (.dup, 1) := by decide +kernel
theorem dX10_take_95 : decode cX10_take 95 = .ok (.getfield 120, 3) := by decide +kernel
theorem dX10_take_98 : decode cX10_take 98 = .ok (.iconst 1, 1) := by decide +kernel
theorem dX10_take_99 : decode cX10_take 99 = .ok (.iadd, 1) := by decide +kernel
theorem dX10_take_100 : decode cX10_take 100 = .ok (.putfield 120, 3) := by decide +kernel
theorem dX10_take_103 : decode cX10_take 103 = .ok (.iinc 1 1, 3) := by decide +kernel
theorem dX10_take_106 : decode cX10_take 106 = .ok (.goto (-52), 3) := by decide +kernel
theorem dX10_take_109 : decode cX10_take 109 = .ok (.aload_n 0, 1) := by decide +kernel
theorem dX10_take_110 : decode cX10_take 110 = .ok (.iconst 0, 1) := by decide +kernel
theorem dX10_take_111 : decode cX10_take 111 = .ok (.putfield 123, 3) := by decide +kernel
theorem dX10_take_114 : decode cX10_take 114 = .ok (.iconst 0, 1) := by decide +kernel
theorem dX10_take_115 : decode cX10_take 115 = .ok (.istore_n 1, 1) := by decide +kernel
theorem dX10_take_116 : decode cX10_take 116 = .ok (.iload_n 1, 1) := by decide +kernel
theorem dX10_take_117 : decode cX10_take 117 = .ok (.aload_n 0, 1) := by decide +kernel
theorem dX10_take_118 : decode cX10_take 118 = .ok (.getfield 13, 3) := by decide +kernel
theorem dX10_take_121 : decode cX10_take 121 = .ok (.iconst 1, 1) := by decide +kernel
theorem dX10_take_122 : decode cX10_take 122 = .ok (.iaload, 1) := by decide +kernel
theorem dX10_take_123 : decode cX10_take 123 = .ok (.if_icmp .ge 119, 3) := by decide +kernel
theorem dX10_take_126 : decode cX10_take 126 = .ok (.aload_n 0, 1) := by decide +kernel
theorem dX10_take_127 : decode cX10_take 127 = .ok (.iconst 1, 1) := by decide +kernel
theorem dX10_take_128 : decode cX10_take 128 = .ok (.iload_n 1, 1) := by decide +kernel
theorem dX10_take_129 : decode cX10_take 129 = .ok (.invokevirtual 113, 3) := by decide +kernel
theorem dX10_take_132 : decode cX10_take 132 = .ok (.iconst 1, 1) := by decide +kernel
theorem dX10_take_133 : decode cX10_take 133 = .ok (.iadd, 1) := by decide +kernel
theorem dX10_take_134 : decode cX10_take 134 = .ok (.istore_n 1, 1) := by decide +kernel
theorem dX10_take_135 : decode cX10_take 135 = .ok (.aload_n 0, 1) := by decide +kernel
theorem dX10_take_136 : decode cX10_take 136 = .ok (.iconst 1, 1) := by decide +kernel
theorem dX10_take_137 : decode cX10_take 137 = .ok (.iload_n 1, 1) := by decide +kernel
theorem dX10_take_138 : decode cX10_take 138 = .ok (.invokevirtual 113, 3) := by decide +kernel
theorem dX10_take_141 : decode cX10_take 141 = .ok (.iload_n 1, 1) := by decide +kernel
theorem dX10_take_142 : decode cX10_take 142 = .ok (.isub, 1) := by decide +kernel
theorem dX10_take_143 : decode cX10_take 143 = .ok (.istore_n 2, 1) := by decide +kernel
theorem dX10_take_144 : decode cX10_take 144 = .ok (.iconst 0, 1) := by decide +kernel
theorem dX10_take_145 : decode cX10_take 145 = .ok (.istore_n 3, 1) := by decide +kernel
theorem dX10_take_146 : decode cX10_take 146 = .ok (.iload_n 3, 1) := by decide +kernel
theorem dX10_take_147 : decode cX10_take 147 = .ok (.iload_n 2, 1) := by decide +kernel
theorem dX10_take_148 : decode cX10_take 148 = .ok (.if_icmp .ge 63, 3) := by decide +kernel
theorem dX10_take_151 : decode cX10_take 151 = .ok (.aload_n 0, 1) := by decide +kernel
theorem dX10_take_152 : decode cX10_take 152 = .ok (.getfield 26, 3) := by decide +kernel
theorem dX10_take_155 : decode cX10_take 155 = .ok (.bipush 16, 2) := by decide +kernel
theorem dX10_take_157 : decode cX10_take 157 = .ok (.aload_n 0, 1) := by decide +kernel
theorem dX10_take_158 : decode cX10_take 158 = .ok (.getfield 123, 3) := by decide +kernel
theorem dX10_take_161 : decode cX10_take 161 = .ok (.imul, 1) := by decide +kernel
theorem dX10_take_162 : decode cX10_take 162 = .ok (.iload_n 3, 1) := by decide +kernel
theorem dX10_take_163 : decode cX10_take 163 = .ok (.iadd, 1) := by decide +kernel
theorem dX10_take_164 : decode cX10_take 164 = .ok (.aload_n 0, 1) := by decide +kernel
theorem dX10_take_165 : decode cX10_take 165 = .ok (.iconst 1, 1) := by decide +kernel
theorem dX10_take_166 : decode cX10_take 166 = .ok (.iload_n 1, 1) := by decide +kernel
theorem dX10_take_167 : decode cX10_take 167 = .ok (.iload_n 3, 1) := by decide +kernel
theorem dX10_take_168 : decode cX10_take 168 = .ok (.iadd, 1) := by decide +kernel
theorem dX10_take_169 : decode cX10_take 169 = .ok (.invokevirtual 93, 3) := by decide +kernel
theorem dX10_take_172 : decode cX10_take 172 = .ok (.invokestatic 105, 3) := by decide +kernel
theorem dX10_take_175 : decode cX10_take 175 = .ok (.iastore, 1) := by decide +kernel
theorem dX10_take_176 : decode cX10_take 176 = .ok (.aload_n 0, 1) := by decide +kernel
theorem dX10_take_177 : decode cX10_take 177 = .ok (.getfield 29, 3) := by decide +kernel
theorem dX10_take_180 : decode cX10_take 180 = .ok (.bipush 16, 2) := by decide +kernel
theorem dX10_take_182 : decode cX10_take 182 = .ok (.aload_n 0, 1) := by decide +kernel
theorem dX10_take_183 : decode cX10_take 183 = .ok (.getfield 123, 3) := by decide +kernel
theorem dX10_take_186 : decode cX10_take 186 = .ok (.imul, 1) := by decide +kernel
theorem dX10_take_187 : decode cX10_take 187 = .ok (.iload_n 3, 1) := by decide +kernel
theorem dX10_take_188 : decode cX10_take 188 = .ok (.iadd, 1) := by decide +kernel
theorem dX10_take_189 : decode cX10_take 189 = .ok (.aload_n 0, 1) := by decide +kernel
theorem dX10_take_190 : decode cX10_take 190 = .ok (.iconst 1, 1) := by decide +kernel
theorem dX10_take_191 : decode cX10_take 191 = .ok (.iload_n 1, 1) := by decide +kernel
theorem dX10_take_192 : decode cX10_take 192 = .ok (.iload_n 2, 1) := by decide +kernel
theorem dX10_take_193 : decode cX10_take 193 = .ok (.iadd, 1) := by decide +kernel
theorem dX10_take_194 : decode cX10_take 194 = .ok (.iconst 3, 1) := by decide +kernel
theorem dX10_take_195 : decode cX10_take 195 = .ok (.iadd, 1) := by decide +kernel
theorem dX10_take_196 : decode cX10_take 196 = .ok (.iload_n 3, 1) := by decide +kernel
theorem dX10_take_197 : decode cX10_take 197 = .ok (.iadd, 1) := by decide +kernel
theorem dX10_take_198 : decode cX10_take 198 = .ok (.invokevirtual 93, 3) := by decide +kernel
theorem dX10_take_201 : decode cX10_take 201 = .ok (.bipush 33, 2) := by decide +kernel
theorem dX10_take_203 : decode cX10_take 203 = .ok (.isub, 1) := by decide +kernel
theorem dX10_take_204 : decode cX10_take 204 = .ok (.iastore, 1) := by decide +kernel
theorem dX10_take_205 : decode cX10_take 205 = .ok (.iinc 3 1, 3) := by decide +kernel
theorem dX10_take_208 : decode cX10_take 208 = .ok (.goto (-62), 3) := by decide +kernel
theorem dX10_take_211 : decode cX10_take 211 = .ok (.aload_n 0, 1) := by decide +kernel
theorem dX10_take_212 : decode cX10_take 212 = .ok (.getfield 23, 3) := by decide +kernel
theorem dX10_take_215 : decode cX10_take 215 = .ok (.aload_n 0, 1) := by decide +kernel
theorem dX10_take_216 : decode cX10_take 216 = .ok (.getfield 123, 3) := by decide +kernel
theorem dX10_take_219 : decode cX10_take 219 = .ok (.iload_n 2, 1) := by decide +kernel
theorem dX10_take_220 : decode cX10_take 220 = .ok (.iastore, 1) := by decide +kernel
theorem dX10_take_221 : decode cX10_take 221 = .ok (.aload_n 0, 1) := by decide +kernel
theorem dX10_take_222 : decode cX10_take 222 = .ok (.dup, 1) := by decide +kernel
theorem dX10_take_223 : decode cX10_take 223 = .ok (.getfield 123, 3) := by decide +kernel
theorem dX10_take_226 : decode cX10_take 226 = .ok (.iconst 1, 1) := by decide +kernel
theorem dX10_take_227 : decode cX10_take 227 = .ok (.iadd, 1) := by decide +kernel
theorem dX10_take_228 : decode cX10_take 228 = .ok (.putfield 123, 3) := by decide +kernel
theorem dX10_take_231 : decode cX10_take 231 = .ok (.iload_n 1, 1) := by decide +kernel
theorem dX10_take_232 : decode cX10_take 232 = .ok (.iconst 2, 1) := by decide +kernel
theorem dX10_take_233 : decode cX10_take 233 = .ok (.iload_n 2, 1) := by decide +kernel
theorem dX10_take_234 : decode cX10_take 234 = .ok (.imul, 1) := by decide +kernel
theorem dX10_take_235 : decode cX10_take 235 = .ok (.iconst 4, 1) := by decide +kernel
theorem dX10_take_236 : decode cX10_take 236 = .ok (.iadd, 1) := by decide +kernel
theorem dX10_take_237 : decode cX10_take 237 = .ok (.iadd, 1) := by decide +kernel
theorem dX10_take_238 : decode cX10_take 238 = .ok (.istore_n 1, 1) := by decide +kernel
theorem dX10_take_239 : decode cX10_take 239 = .ok (.goto (-123), 3) := by decide +kernel
theorem dX10_take_242 : decode cX10_take 242 = .ok (.return_, 1) := by decide +kernel
theorem dX10_turn_0 : decode cX10_turn 0 = .ok (.aload_n 0, 1) := by decide +kernel
theorem dX10_turn_1 : decode cX10_turn 1 = .ok (.getfield 23, 3) := by decide +kernel
theorem dX10_turn_4 : decode cX10_turn 4 = .ok (.iload_n 1, 1) := by decide +kernel
theorem dX10_turn_5 : decode cX10_turn 5 = .ok (.iaload, 1) := by decide +kernel
theorem dX10_turn_6 : decode cX10_turn 6 = .ok (.istore_n 3, 1) := by decide +kernel
theorem dX10_turn_7 : decode cX10_turn 7 = .ok (.iconst 0, 1) := by decide +kernel
theorem dX10_turn_8 : decode cX10_turn 8 = .ok (.istore 4, 2) := by decide +kernel
theorem dX10_turn_10 : decode cX10_turn 10 = .ok (.iload 4, 2) := by decide +kernel
theorem dX10_turn_12 : decode cX10_turn 12 = .ok (.iload_n 3, 1) := by decide +kernel
theorem dX10_turn_13 : decode cX10_turn 13 = .ok (.if_icmp .ge 88, 3) := by decide +kernel
theorem dX10_turn_16 : decode cX10_turn 16 = .ok (.bipush 16, 2) := by decide +kernel
theorem dX10_turn_18 : decode cX10_turn 18 = .ok (.iload_n 1, 1) := by decide +kernel
theorem dX10_turn_19 : decode cX10_turn 19 = .ok (.imul, 1) := by decide +kernel
theorem dX10_turn_20 : decode cX10_turn 20 = .ok (.iload_n 2, 1) := by decide +kernel
theorem dX10_turn_21 : decode cX10_turn 21 = .ok (.iconst 1, 1) := by decide +kernel
theorem dX10_turn_22 : decode cX10_turn 22 = .ok (.if_icmp .ne 12, 3) := by decide +kernel
theorem dX10_turn_25 : decode cX10_turn 25 = .ok (.iload_n 3, 1) := by decide +kernel
theorem dX10_turn_26 : decode cX10_turn 26 = .ok (.iconst 1, 1) := by decide +kernel
theorem dX10_turn_27 : decode cX10_turn 27 = .ok (.isub, 1) := by decide +kernel
theorem dX10_turn_28 : decode cX10_turn 28 = .ok (.iload 4, 2) := by decide +kernel
theorem dX10_turn_30 : decode cX10_turn 30 = .ok (.isub, 1) := by decide +kernel
theorem dX10_turn_31 : decode cX10_turn 31 = .ok (.goto 5, 3) := by decide +kernel
theorem dX10_turn_34 : decode cX10_turn 34 = .ok (.iload 4, 2) := by decide +kernel
theorem dX10_turn_36 : decode cX10_turn 36 = .ok (.iadd, 1) := by decide +kernel
theorem dX10_turn_37 : decode cX10_turn 37 = .ok (.istore 5, 2) := by decide +kernel
theorem dX10_turn_39 : decode cX10_turn 39 = .ok (.aload_n 0, 1) := by decide +kernel
theorem dX10_turn_40 : decode cX10_turn 40 = .ok (.getfield 53, 3) := by decide +kernel
theorem dX10_turn_43 : decode cX10_turn 43 = .ok (.iload 4, 2) := by decide +kernel
theorem dX10_turn_45 : decode cX10_turn 45 = .ok (.iload_n 2, 1) := by decide +kernel
theorem dX10_turn_46 : decode cX10_turn 46 = .ok (.iconst 1, 1) := by decide +kernel
theorem dX10_turn_47 : decode cX10_turn 47 = .ok (.if_icmp .ne 26, 3) := by decide +kernel
theorem dX10_turn_50 : decode cX10_turn 50 = .ok (.aload_n 0, 1) := by decide +kernel
theorem dX10_turn_51 : decode cX10_turn 51 = .ok (.getfield 26, 3) := by decide +kernel
theorem dX10_turn_54 : decode cX10_turn 54 = .ok (.iload 5, 2) := by decide +kernel
theorem dX10_turn_56 : decode cX10_turn 56 = .ok (.iaload, 1) := by decide +kernel
theorem dX10_turn_57 : decode cX10_turn 57 = .ok (.iconst 4, 1) := by decide +kernel
theorem dX10_turn_58 : decode cX10_turn 58 = .ok (.if_icmp .ge 15, 3) := by decide +kernel
theorem dX10_turn_61 : decode cX10_turn 61 = .ok (.iconst 3, 1) := by decide +kernel
theorem dX10_turn_62 : decode cX10_turn 62 = .ok (.aload_n 0, 1) := by decide +kernel
theorem dX10_turn_63 : decode cX10_turn 63 = .ok (.getfield 26, 3) := by decide +kernel
theorem dX10_turn_66 : decode cX10_turn 66 = .ok (.iload 5, 2) := by decide +kernel
theorem dX10_turn_68 : decode cX10_turn 68 = .ok (.iaload, 1) := by decide +kernel
theorem dX10_turn_69 : decode cX10_turn 69 = .ok (.isub, 1) := by decide +kernel
theorem dX10_turn_70 : decode cX10_turn 70 = .ok (.goto 10, 3) := by decide +kernel
theorem dX10_turn_73 : decode cX10_turn 73 = .ok (.aload_n 0, 1) := by decide +kernel
theorem dX10_turn_74 : decode cX10_turn 74 = .ok (.getfield 26, 3) := by decide +kernel
theorem dX10_turn_77 : decode cX10_turn 77 = .ok (.iload 5, 2) := by decide +kernel
theorem dX10_turn_79 : decode cX10_turn 79 = .ok (.iaload, 1) := by decide +kernel
theorem dX10_turn_80 : decode cX10_turn 80 = .ok (.iastore, 1) := by decide +kernel
theorem dX10_turn_81 : decode cX10_turn 81 = .ok (.aload_n 0, 1) := by decide +kernel
theorem dX10_turn_82 : decode cX10_turn 82 = .ok (.getfield 56, 3) := by decide +kernel
theorem dX10_turn_85 : decode cX10_turn 85 = .ok (.iload 4, 2) := by decide +kernel
theorem dX10_turn_87 : decode cX10_turn 87 = .ok (.aload_n 0, 1) := by decide +kernel
theorem dX10_turn_88 : decode cX10_turn 88 = .ok (.getfield 29, 3) := by decide +kernel
theorem dX10_turn_91 : decode cX10_turn 91 = .ok (.iload 5, 2) := by decide +kernel
theorem dX10_turn_93 : decode cX10_turn 93 = .ok (.iaload, 1) := by decide +kernel
theorem dX10_turn_94 : decode cX10_turn 94 = .ok (.iastore, 1) := by decide +kernel
theorem dX10_turn_95 : decode cX10_turn 95 = .ok (.iinc 4 1, 3) := by decide +kernel
theorem dX10_turn_98 : decode cX10_turn 98 = .ok (.goto (-88), 3) := by decide +kernel
theorem dX10_turn_101 : decode cX10_turn 101 = .ok (.return_, 1) := by decide +kernel
theorem dX10_visible_0 : decode cX10_visible 0 = .ok (.iload_n 0, 1) := by decide +kernel
theorem dX10_visible_1 : decode cX10_visible 1 = .ok (.bipush 33, 2) := by decide +kernel
theorem dX10_visible_3 : decode cX10_visible 3 = .ok (.if_icmp .lt 13, 3) := by decide +kernel
theorem dX10_visible_6 : decode cX10_visible 6 = .ok (.iload_n 0, 1) := by decide +kernel
theorem dX10_visible_7 : decode cX10_visible 7 = .ok (.bipush 126, 2) := by decide +kernel
theorem dX10_visible_9 : decode cX10_visible 9 = .ok (.if_icmp .gt 7, 3) := by decide +kernel
theorem dX10_visible_12 : decode cX10_visible 12 = .ok (.iconst 1, 1) := by decide +kernel
theorem dX10_visible_13 : decode cX10_visible 13 = .ok (.goto 4, 3) := by decide +kernel
theorem dX10_visible_16 : decode cX10_visible 16 = .ok (.iconst 0, 1) := by decide +kernel
theorem dX10_visible_17 : decode cX10_visible 17 = .ok (.ireturn, 1) := by decide +kernel
theorem dX10_watch_0 : decode cX10_watch 0 = .ok (.iconst 0, 1) := by decide +kernel
theorem dX10_watch_1 : decode cX10_watch 1 = .ok (.istore_n 2, 1) := by decide +kernel
theorem dX10_watch_2 : decode cX10_watch 2 = .ok (.aload_n 0, 1) := by decide +kernel
theorem dX10_watch_3 : decode cX10_watch 3 = .ok (.getfield 35, 3) := by decide +kernel
theorem dX10_watch_6 : decode cX10_watch 6 = .ok (.iload_n 1, 1) := by decide +kernel
theorem dX10_watch_7 : decode cX10_watch 7 = .ok (.iaload, 1) := by decide +kernel
theorem dX10_watch_8 : decode cX10_watch 8 = .ok (.istore_n 3, 1) := by decide +kernel
theorem dX10_watch_9 : decode cX10_watch 9 = .ok (.iconst (-1), 1) := by decide +kernel
theorem dX10_watch_10 : decode cX10_watch 10 = .ok (.istore 4, 2) := by decide +kernel
theorem dX10_watch_12 : decode cX10_watch 12 = .ok (.iconst 0, 1) := by decide +kernel
theorem dX10_watch_13 : decode cX10_watch 13 = .ok (.istore 5, 2) := by decide +kernel
theorem dX10_watch_15 : decode cX10_watch 15 = .ok (.iconst 0, 1) := by decide +kernel
theorem dX10_watch_16 : decode cX10_watch 16 = .ok (.istore 6, 2) := by decide +kernel
theorem dX10_watch_18 : decode cX10_watch 18 = .ok (.iconst 0, 1) := by decide +kernel
theorem dX10_watch_19 : decode cX10_watch 19 = .ok (.istore 7, 2) := by decide +kernel
theorem dX10_watch_21 : decode cX10_watch 21 = .ok (.iconst 0, 1) := by decide +kernel
theorem dX10_watch_22 : decode cX10_watch 22 = .ok (.istore 8, 2) := by decide +kernel
theorem dX10_watch_24 : decode cX10_watch 24 = .ok (.iconst 1, 1) := by decide +kernel
theorem dX10_watch_25 : decode cX10_watch 25 = .ok (.istore 9, 2) := by decide +kernel
theorem dX10_watch_27 : decode cX10_watch 27 = .ok (.iconst 0, 1) := by decide +kernel
theorem dX10_watch_28 : decode cX10_watch 28 = .ok (.istore 10, 2) := by decide +kernel
theorem dX10_watch_30 : decode cX10_watch 30 = .ok (.iload 10, 2) := by decide +kernel
theorem dX10_watch_32 : decode cX10_watch 32 = .ok (.aload_n 0, 1) := by decide +kernel
theorem dX10_watch_33 : decode cX10_watch 33 = .ok (.getfield 47, 3) := by decide +kernel
theorem dX10_watch_36 : decode cX10_watch 36 = .ok (.iload_n 1, 1) := by decide +kernel
theorem dX10_watch_37 : decode cX10_watch 37 = .ok (.iaload, 1) := by decide +kernel
theorem dX10_watch_38 : decode cX10_watch 38 = .ok (.if_icmp .ge 262, 3) := by decide +kernel
theorem dX10_watch_41 : decode cX10_watch 41 = .ok (.aload_n 0, 1) := by decide +kernel
theorem dX10_watch_42 : decode cX10_watch 42 = .ok (.getfield 50, 3) := by decide +kernel
theorem dX10_watch_45 : decode cX10_watch 45 = .ok (.bipush 40, 2) := by decide +kernel
theorem dX10_watch_47 : decode cX10_watch 47 = .ok (.iload_n 1, 1) := by decide +kernel
theorem dX10_watch_48 : decode cX10_watch 48 = .ok (.imul, 1) := by decide +kernel
theorem dX10_watch_49 : decode cX10_watch 49 = .ok (.iload 10, 2) := by decide +kernel
theorem dX10_watch_51 : decode cX10_watch 51 = .ok (.iadd, 1) := by decide +kernel
theorem dX10_watch_52 : decode cX10_watch 52 = .ok (.iaload, 1) := by decide +kernel
theorem dX10_watch_53 : decode cX10_watch 53 = .ok (.istore 11, 2) := by decide +kernel
theorem dX10_watch_55 : decode cX10_watch 55 = .ok (.iload 11, 2) := by decide +kernel
theorem dX10_watch_57 : decode cX10_watch 57 = .ok (.iconst 1, 1) := by decide +kernel
theorem dX10_watch_58 : decode cX10_watch 58 = .ok (.if_icmp .ne 156, 3) := by decide +kernel
theorem dX10_watch_61 : decode cX10_watch 61 = .ok (.aload_n 0, 1) := by decide +kernel
theorem dX10_watch_62 : decode cX10_watch 62 = .ok (.getfield 56, 3) := by decide +kernel
theorem dX10_watch_65 : decode cX10_watch 65 = .ok (.iload_n 2, 1) := by decide +kernel
theorem dX10_watch_66 : decode cX10_watch 66 = .ok (.iaload, 1) := by decide +kernel
theorem dX10_watch_67 : decode cX10_watch 67 = .ok (.istore 12, 2) := by decide +kernel
theorem dX10_watch_69 : decode cX10_watch 69 = .ok (.aload_n 0, 1) := by decide +kernel
theorem dX10_watch_70 : decode cX10_watch 70 = .ok (.getfield 53, 3) := by decide +kernel
theorem dX10_watch_73 : decode cX10_watch 73 = .ok (.iload_n 2, 1) := by decide +kernel
theorem dX10_watch_74 : decode cX10_watch 74 = .ok (.iaload, 1) := by decide +kernel
theorem dX10_watch_75 : decode cX10_watch 75 = .ok (.iconst 4, 1) := by decide +kernel
theorem dX10_watch_76 : decode cX10_watch 76 = .ok (.if_icmp .ge 16, 3) := by decide +kernel
theorem dX10_watch_79 : decode cX10_watch 79 = .ok (.aload_n 0, 1) := by decide +kernel
theorem dX10_watch_80 : decode cX10_watch 80 = .ok (.iload_n 3, 1) := by decide +kernel
theorem dX10_watch_81 : decode cX10_watch 81 = .ok (.aload_n 0, 1) := by decide +kernel
theorem dX10_watch_82 : decode cX10_watch 82 = .ok (.getfield 53, 3) := by decide +kernel
theorem dX10_watch_85 : decode cX10_watch 85 = .ok (.iload_n 2, 1) := by decide +kernel
theorem dX10_watch_86 : decode cX10_watch 86 = .ok (.iaload, 1) := by decide +kernel
theorem dX10_watch_87 : decode cX10_watch 87 = .ok (.iload 12, 2) := by decide +kernel
theorem dX10_watch_89 : decode cX10_watch 89 = .ok (.invokevirtual 136, 3) := by decide +kernel
theorem dX10_watch_92 : decode cX10_watch 92 = .ok (.iload 12, 2) := by decide +kernel
theorem dX10_watch_94 : decode cX10_watch 94 = .ok (.iload 5, 2) := by decide +kernel
theorem dX10_watch_96 : decode cX10_watch 96 = .ok (.if_icmp .ge 8, 3) := by decide +kernel
theorem dX10_watch_99 : decode cX10_watch 99 = .ok (.iload 12, 2) := by decide +kernel
theorem dX10_watch_101 : decode cX10_watch 101 = .ok (.goto 5, 3) := by decide +kernel
theorem dX10_watch_104 : decode cX10_watch 104 = .ok (.iload 5, 2) := by decide +kernel
theorem dX10_watch_106 : decode cX10_watch 106 = .ok (.istore 13, 2) := by decide +kernel
theorem dX10_watch_108 : decode cX10_watch 108 = .ok (.iload 4, 2) := by decide +kernel
theorem dX10_watch_110 : decode cX10_watch 110 = .ok (.ifCond .lt 22, 3) := by decide +kernel
theorem dX10_watch_113 : decode cX10_watch 113 = .ok (.iload 6, 2) := by decide +kernel
theorem dX10_watch_115 : decode cX10_watch 115 = .ok (.ifCond .ne 17, 3) := by decide +kernel
theorem dX10_watch_118 : decode cX10_watch 118 = .ok (.iload 7, 2) := by decide +kernel
theorem dX10_watch_120 : decode cX10_watch 120 = .ok (.ifCond .ne 12, 3) := by decide +kernel
theorem dX10_watch_123 : decode cX10_watch 123 = .ok (.aload_n 0, 1) := by decide +kernel
theorem dX10_watch_124 : decode cX10_watch 124 = .ok (.iload 4, 2) := by decide +kernel
theorem dX10_watch_126 : decode cX10_watch 126 = .ok (.iconst 0, 1) := by decide +kernel
theorem dX10_watch_127 : decode cX10_watch 127 = .ok (.iload 13, 2) := by decide +kernel
theorem dX10_watch_129 : decode cX10_watch 129 = .ok (.invokevirtual 140, 3) := by decide +kernel
theorem dX10_watch_132 : decode cX10_watch 132 = .ok (.iload 4, 2) := by decide +kernel
theorem dX10_watch_134 : decode cX10_watch 134 = .ok (.ifCond .lt 23, 3) := by decide +kernel
theorem dX10_watch_137 : decode cX10_watch 137 = .ok (.iload 6, 2) := by decide +kernel
theorem dX10_watch_139 : decode cX10_watch 139 = .ok (.ifCond .le 18, 3) := by decide +kernel
theorem dX10_watch_142 : decode cX10_watch 142 = .ok (.iload 7, 2) := by decide +kernel
theorem dX10_watch_144 : decode cX10_watch 144 = .ok (.ifCond .ne 13, 3) := by decide +kernel
theorem dX10_watch_147 : decode cX10_watch 147 = .ok (.aload_n 0, 1) := by decide +kernel
theorem dX10_watch_148 : decode cX10_watch 148 = .ok (.iload 4, 2) := by decide +kernel
theorem dX10_watch_150 : decode cX10_watch 150 = .ok (.iload 6, 2) := by decide +kernel
theorem dX10_watch_152 : decode cX10_watch 152 = .ok (.iload 13, 2) := by decide +kernel
theorem dX10_watch_154 : decode cX10_watch 154 = .ok (.invokevirtual 140, 3) := by decide +kernel
theorem dX10_watch_157 : decode cX10_watch 157 = .ok (.iload 4, 2) := by decide +kernel
theorem dX10_watch_159 : decode cX10_watch 159 = .ok (.ifCond .lt 33, 3) := by decide +kernel
theorem dX10_watch_162 : decode cX10_watch 162 = .ok (.iload 6, 2) := by decide +kernel
theorem dX10_watch_164 : decode cX10_watch 164 = .ok (.ifCond .ne 28, 3) := by decide +kernel
theorem dX10_watch_167 : decode cX10_watch 167 = .ok (.iload 7, 2) := by decide +kernel
theorem dX10_watch_169 : decode cX10_watch 169 = .ok (.ifCond .le 23, 3) := by decide +kernel
theorem dX10_watch_172 : decode cX10_watch 172 = .ok (.iload 9, 2) := by decide +kernel
theorem dX10_watch_174 : decode cX10_watch 174 = .ok (.ifCond .eq 18, 3) := by decide +kernel
theorem dX10_watch_177 : decode cX10_watch 177 = .ok (.aload_n 0, 1) := by decide +kernel
theorem dX10_watch_178 : decode cX10_watch 178 = .ok (.iload 4, 2) := by decide +kernel
theorem dX10_watch_180 : decode cX10_watch 180 = .ok (.iload 7, 2) := by decide +kernel
theorem dX10_watch_182 : decode cX10_watch 182 = .ok (.iload 8, 2) := by decide +kernel
theorem dX10_watch_184 : decode cX10_watch 184 = .ok (.invokestatic 143, 3) := by decide +kernel
theorem dX10_watch_187 : decode cX10_watch 187 = .ok (.iload 13, 2) := by decide +kernel
theorem dX10_watch_189 : decode cX10_watch 189 = .ok (.invokevirtual 140, 3) := by decide +kernel
theorem dX10_watch_192 : decode cX10_watch 192 = .ok (.iload_n 3, 1) := by decide +kernel
theorem dX10_watch_193 : decode cX10_watch 193 = .ok (.istore 4, 2) := by decide +kernel
theorem dX10_watch_195 : decode cX10_watch 195 = .ok (.iload 12, 2) := by decide +kernel
theorem dX10_watch_197 : decode cX10_watch 197 = .ok (.istore 5, 2) := by decide +kernel
theorem dX10_watch_199 : decode cX10_watch 199 = .ok (.iconst 0, 1) := by decide +kernel
theorem dX10_watch_200 : decode cX10_watch 200 = .ok (.istore 6, 2) := by decide +kernel
theorem dX10_watch_202 : decode cX10_watch 202 = .ok (.iconst 0, 1) := by decide +kernel
theorem dX10_watch_203 : decode cX10_watch 203 = .ok (.istore 7, 2) := by decide +kernel
theorem dX10_watch_205 : decode cX10_watch 205 = .ok (.iconst 0, 1) := by decide +kernel
theorem dX10_watch_206 : decode cX10_watch 206 = .ok (.istore 8, 2) := by decide +kernel
theorem dX10_watch_208 : decode cX10_watch 208 = .ok (.iconst 1, 1) := by decide +kernel
theorem dX10_watch_209 : decode cX10_watch 209 = .ok (.istore 9, 2) := by decide +kernel
theorem dX10_watch_211 : decode cX10_watch 211 = .ok (.goto 55, 3) := by decide +kernel
theorem dX10_watch_214 : decode cX10_watch 214 = .ok (.iload 11, 2) := by decide +kernel
theorem dX10_watch_216 : decode cX10_watch 216 = .ok (.iconst 2, 1) := by decide +kernel
theorem dX10_watch_217 : decode cX10_watch 217 = .ok (.if_icmp .ne 9, 3) := by decide +kernel
theorem dX10_watch_220 : decode cX10_watch 220 = .ok (.iinc 6 1, 3) := by decide +kernel
theorem dX10_watch_223 : decode cX10_watch 223 = .ok (.goto 43, 3) := by decide +kernel
theorem dX10_watch_226 : decode cX10_watch 226 = .ok (.iinc 7 1, 3) := by decide +kernel
theorem dX10_watch_229 : decode cX10_watch 229 = .ok (.iload 9, 2) := by decide +kernel
theorem dX10_watch_231 : decode cX10_watch 231 = .ok (.ifCond .eq 17, 3) := by decide +kernel
theorem dX10_watch_234 : decode cX10_watch 234 = .ok (.aload_n 0, 1) := by decide +kernel
theorem dX10_watch_235 : decode cX10_watch 235 = .ok (.getfield 53, 3) := by decide +kernel
theorem dX10_watch_238 : decode cX10_watch 238 = .ok (.iload_n 2, 1) := by decide +kernel
theorem dX10_watch_239 : decode cX10_watch 239 = .ok (.iaload, 1) := by decide +kernel
theorem dX10_watch_240 : decode cX10_watch 240 = .ok (.iconst 4, 1) := by decide +kernel
theorem dX10_watch_241 : decode cX10_watch 241 = .ok (.if_icmp .ge 7, 3) := by decide +kernel
theorem dX10_watch_244 : decode cX10_watch 244 = .ok (.iconst 1, 1) := by decide +kernel
theorem dX10_watch_245 : decode cX10_watch 245 = .ok (.goto 4, 3) := by decide +kernel
theorem dX10_watch_248 : decode cX10_watch 248 = .ok (.iconst 0, 1) := by decide +kernel
theorem dX10_watch_249 : decode cX10_watch 249 = .ok (.istore 9, 2) := by decide +kernel
theorem dX10_watch_251 : decode cX10_watch 251 = .ok (.iconst 4, 1) := by decide +kernel
theorem dX10_watch_252 : decode cX10_watch 252 = .ok (.iload 8, 2) := by decide +kernel
theorem dX10_watch_254 : decode cX10_watch 254 = .ok (.imul, 1) := by decide +kernel
theorem dX10_watch_255 : decode cX10_watch 255 = .ok (.aload_n 0, 1) := by decide +kernel
theorem dX10_watch_256 : decode cX10_watch 256 = .ok (.getfield 53, 3) := by decide +kernel
theorem dX10_watch_259 : decode cX10_watch 259 = .ok (.iload_n 2, 1) := by decide +kernel
theorem dX10_watch_260 : decode cX10_watch 260 = .ok (.iaload, 1) := by decide +kernel
theorem dX10_watch_261 : decode cX10_watch 261 = .ok (.iconst 4, 1) := by decide +kernel
theorem dX10_watch_262 : decode cX10_watch 262 = .ok (.irem, 1) := by decide +kernel
theorem dX10_watch_263 : decode cX10_watch 263 = .ok (.iadd, 1) := by decide +kernel
theorem dX10_watch_264 : decode cX10_watch 264 = .ok (.istore 8, 2) := by decide +kernel
theorem dX10_watch_266 : decode cX10_watch 266 = .ok (.iload 11, 2) := by decide +kernel
theorem dX10_watch_268 : decode cX10_watch 268 = .ok (.iconst 2, 1) := by decide +kernel
theorem dX10_watch_269 : decode cX10_watch 269 = .ok (.if_icmp .ne 7, 3) := by decide +kernel
theorem dX10_watch_272 : decode cX10_watch 272 = .ok (.iload_n 2, 1) := by decide +kernel
theorem dX10_watch_273 : decode cX10_watch 273 = .ok (.goto 6, 3) := by decide +kernel
theorem dX10_watch_276 : decode cX10_watch 276 = .ok (.iload_n 2, 1) := by decide +kernel
theorem dX10_watch_277 : decode cX10_watch 277 = .ok (.iconst 1, 1) := by decide +kernel
theorem dX10_watch_278 : decode cX10_watch 278 = .ok (.iadd, 1) := by decide +kernel
theorem dX10_watch_279 : decode cX10_watch 279 = .ok (.istore_n 2, 1) := by decide +kernel
theorem dX10_watch_280 : decode cX10_watch 280 = .ok (.iload 11, 2) := by decide +kernel
theorem dX10_watch_282 : decode cX10_watch 282 = .ok (.iconst 3, 1) := by decide +kernel
theorem dX10_watch_283 : decode cX10_watch 283 = .ok (.if_icmp .ne 7, 3) := by decide +kernel
theorem dX10_watch_286 : decode cX10_watch 286 = .ok (.iload_n 3, 1) := by decide +kernel
theorem dX10_watch_287 : decode cX10_watch 287 = .ok (.goto 6, 3) := by decide +kernel
theorem dX10_watch_290 : decode cX10_watch 290 = .ok (.iload_n 3, 1) := by decide +kernel
theorem dX10_watch_291 : decode cX10_watch 291 = .ok (.iconst 1, 1) := by decide +kernel
theorem dX10_watch_292 : decode cX10_watch 292 = .ok (.iadd, 1) := by decide +kernel
theorem dX10_watch_293 : decode cX10_watch 293 = .ok (.istore_n 3, 1) := by decide +kernel
theorem dX10_watch_294 : decode cX10_watch 294 = .ok (.iinc 10 1, 3) := by decide +kernel
theorem dX10_watch_297 : decode cX10_watch 297 = .ok (.goto (-267), 3) := by decide +kernel
theorem dX10_watch_300 : decode cX10_watch 300 = .ok (.return_, 1) := by decide +kernel
theorem dX10_write_0 : decode cX10_write 0 = .ok (.aload_n 0, 1) := by decide +kernel
theorem dX10_write_1 : decode cX10_write 1 = .ok (.iload_n 1, 1) := by decide +kernel
theorem dX10_write_2 : decode cX10_write 2 = .ok (.putfield 226, 3) := by decide +kernel
theorem dX10_write_5 : decode cX10_write 5 = .ok (.aload_n 0, 1) := by decide +kernel
theorem dX10_write_6 : decode cX10_write 6 = .ok (.iconst 0, 1) := by decide +kernel
theorem dX10_write_7 : decode cX10_write 7 = .ok (.putfield 223, 3) := by decide +kernel
theorem dX10_write_10 : decode cX10_write 10 = .ok (.aload_n 0, 1) := by decide +kernel
theorem dX10_write_11 : decode cX10_write 11 = .ok (.iconst 0, 1) := by decide +kernel
theorem dX10_write_12 : decode cX10_write 12 = .ok (.putfield 229, 3) := by decide +kernel
theorem dX10_write_15 : decode cX10_write 15 = .ok (.aload_n 0, 1) := by decide +kernel
theorem dX10_write_16 : decode cX10_write 16 = .ok (.getfield 203, 3) := by decide +kernel
theorem dX10_write_19 : decode cX10_write 19 = .ok (.ifCond .ne 4, 3) := by decide +kernel
theorem dX10_write_22 : decode cX10_write 22 = .ok (.return_, 1) := by decide +kernel
theorem dX10_write_23 : decode cX10_write 23 = .ok (.aload_n 0, 1) := by decide +kernel
theorem dX10_write_24 : decode cX10_write 24 = .ok (.invokevirtual 257, 3) := by decide +kernel
theorem dX10_write_27 : decode cX10_write 27 = .ok (.iconst 0, 1) := by decide +kernel
theorem dX10_write_28 : decode cX10_write 28 = .ok (.istore_n 2, 1) := by decide +kernel
theorem dX10_write_29 : decode cX10_write 29 = .ok (.iload_n 2, 1) := by decide +kernel
theorem dX10_write_30 : decode cX10_write 30 = .ok (.aload_n 0, 1) := by decide +kernel
theorem dX10_write_31 : decode cX10_write 31 = .ok (.getfield 120, 3) := by decide +kernel
theorem dX10_write_34 : decode cX10_write 34 = .ok (.if_icmp .ge 35, 3) := by decide +kernel
theorem dX10_write_37 : decode cX10_write 37 = .ok (.aload_n 0, 1) := by decide +kernel
theorem dX10_write_38 : decode cX10_write 38 = .ok (.iconst 0, 1) := by decide +kernel
theorem dX10_write_39 : decode cX10_write 39 = .ok (.iload_n 2, 1) := by decide +kernel
theorem dX10_write_40 : decode cX10_write 40 = .ok (.invokevirtual 216, 3) := by decide +kernel
theorem dX10_write_43 : decode cX10_write 43 = .ok (.ifCond .eq 7, 3) := by decide +kernel
theorem dX10_write_46 : decode cX10_write 46 = .ok (.aload_n 0, 1) := by decide +kernel
theorem dX10_write_47 : decode cX10_write 47 = .ok (.invokevirtual 260, 3) := by decide +kernel
theorem dX10_write_50 : decode cX10_write 50 = .ok (.aload_n 0, 1) := by decide +kernel
theorem dX10_write_51 : decode cX10_write 51 = .ok (.iconst 1, 1) := by decide +kernel
theorem dX10_write_52 : decode cX10_write 52 = .ok (.iload_n 2, 1) := by decide +kernel
theorem dX10_write_53 : decode cX10_write 53 = .ok (.invokevirtual 216, 3) := by decide +kernel
theorem dX10_write_56 : decode cX10_write 56 = .ok (.ifCond .eq 7, 3) := by decide +kernel
theorem dX10_write_59 : decode cX10_write 59 = .ok (.aload_n 0, 1) := by decide +kernel
theorem dX10_write_60 : decode cX10_write 60 = .ok (.invokevirtual 260, 3) := by decide +kernel
theorem dX10_write_63 : decode cX10_write 63 = .ok (.iinc 2 1, 3) := by decide +kernel
theorem dX10_write_66 : decode cX10_write 66 = .ok (.goto (-37), 3) := by decide +kernel
theorem dX10_write_69 : decode cX10_write 69 = .ok (.return_, 1) := by decide +kernel

/-! THE LAW: decode rows, calls (printed by wip/mk5.py) -/
def R_law : String := "ReadCallerLaw"
theorem dL_0 : decode code 0 = .ok (.new 7, 3) := by decide +kernel
theorem dL_3 : decode code 3 = .ok (.dup, 1) := by decide +kernel
theorem dL_4 : decode code 4 = .ok (.invokespecial 9, 3) := by decide +kernel
theorem dL_7 : decode code 7 = .ok (.astore_n 1, 1) := by decide +kernel
theorem dL_8 : decode code 8 = .ok (.new 10, 3) := by decide +kernel
theorem dL_11 : decode code 11 = .ok (.dup, 1) := by decide +kernel
theorem dL_12 : decode code 12 = .ok (.invokespecial 12, 3) := by decide +kernel
theorem dL_15 : decode code 15 = .ok (.astore_n 2, 1) := by decide +kernel
theorem dL_16 : decode code 16 = .ok (.iconst 0, 1) := by decide +kernel
theorem dL_17 : decode code 17 = .ok (.istore_n 3, 1) := by decide +kernel
theorem dL_18 : decode code 18 = .ok (.iload_n 3, 1) := by decide +kernel
theorem dL_19 : decode code 19 = .ok (.aload_n 0, 1) := by decide +kernel
theorem dL_20 : decode code 20 = .ok (.arraylength, 1) := by decide +kernel
theorem dL_21 : decode code 21 = .ok (.iconst 4, 1) := by decide +kernel
theorem dL_22 : decode code 22 = .ok (.isub, 1) := by decide +kernel
theorem dL_23 : decode code 23 = .ok (.if_icmp .gt 368, 3) := by decide +kernel
theorem dL_26 : decode code 26 = .ok (.aload_n 0, 1) := by decide +kernel
theorem dL_27 : decode code 27 = .ok (.iload_n 3, 1) := by decide +kernel
theorem dL_28 : decode code 28 = .ok (.iaload, 1) := by decide +kernel
theorem dL_29 : decode code 29 = .ok (.bipush 15, 2) := by decide +kernel
theorem dL_31 : decode code 31 = .ok (.iand, 1) := by decide +kernel
theorem dL_32 : decode code 32 = .ok (.tableswitch 353 0 10 #[60, 103, 126, 149, 172, 185, 218, 251, 284, 317, 330], 60) := by decide +kernel
theorem dL_92 : decode code 92 = .ok (.aload_n 1, 1) := by decide +kernel
theorem dL_93 : decode code 93 = .ok (.aload_n 0, 1) := by decide +kernel
theorem dL_94 : decode code 94 = .ok (.iload_n 3, 1) := by decide +kernel
theorem dL_95 : decode code 95 = .ok (.iconst 1, 1) := by decide +kernel
theorem dL_96 : decode code 96 = .ok (.iadd, 1) := by decide +kernel
theorem dL_97 : decode code 97 = .ok (.iaload, 1) := by decide +kernel
theorem dL_98 : decode code 98 = .ok (.aload_n 0, 1) := by decide +kernel
theorem dL_99 : decode code 99 = .ok (.iload_n 3, 1) := by decide +kernel
theorem dL_100 : decode code 100 = .ok (.iconst 2, 1) := by decide +kernel
theorem dL_101 : decode code 101 = .ok (.iadd, 1) := by decide +kernel
theorem dL_102 : decode code 102 = .ok (.iaload, 1) := by decide +kernel
theorem dL_103 : decode code 103 = .ok (.aload_n 0, 1) := by decide +kernel
theorem dL_104 : decode code 104 = .ok (.iload_n 3, 1) := by decide +kernel
theorem dL_105 : decode code 105 = .ok (.iconst 3, 1) := by decide +kernel
theorem dL_106 : decode code 106 = .ok (.iadd, 1) := by decide +kernel
theorem dL_107 : decode code 107 = .ok (.iaload, 1) := by decide +kernel
theorem dL_108 : decode code 108 = .ok (.invokevirtual 13, 3) := by decide +kernel
theorem dL_111 : decode code 111 = .ok (.aload_n 2, 1) := by decide +kernel
theorem dL_112 : decode code 112 = .ok (.aload_n 0, 1) := by decide +kernel
theorem dL_113 : decode code 113 = .ok (.iload_n 3, 1) := by decide +kernel
theorem dL_114 : decode code 114 = .ok (.iconst 1, 1) := by decide +kernel
theorem dL_115 : decode code 115 = .ok (.iadd, 1) := by decide +kernel
theorem dL_116 : decode code 116 = .ok (.iaload, 1) := by decide +kernel
theorem dL_117 : decode code 117 = .ok (.aload_n 0, 1) := by decide +kernel
theorem dL_118 : decode code 118 = .ok (.iload_n 3, 1) := by decide +kernel
theorem dL_119 : decode code 119 = .ok (.iconst 2, 1) := by decide +kernel
theorem dL_120 : decode code 120 = .ok (.iadd, 1) := by decide +kernel
theorem dL_121 : decode code 121 = .ok (.iaload, 1) := by decide +kernel
theorem dL_122 : decode code 122 = .ok (.aload_n 0, 1) := by decide +kernel
theorem dL_123 : decode code 123 = .ok (.iload_n 3, 1) := by decide +kernel
theorem dL_124 : decode code 124 = .ok (.iconst 3, 1) := by decide +kernel
theorem dL_125 : decode code 125 = .ok (.iadd, 1) := by decide +kernel
theorem dL_126 : decode code 126 = .ok (.iaload, 1) := by decide +kernel
theorem dL_127 : decode code 127 = .ok (.invokevirtual 17, 3) := by decide +kernel
theorem dL_130 : decode code 130 = .ok (.if_icmp .eq 255, 3) := by decide +kernel
theorem dL_133 : decode code 133 = .ok (.iconst 0, 1) := by decide +kernel
theorem dL_134 : decode code 134 = .ok (.ireturn, 1) := by decide +kernel
theorem dL_135 : decode code 135 = .ok (.aload_n 1, 1) := by decide +kernel
theorem dL_136 : decode code 136 = .ok (.aload_n 0, 1) := by decide +kernel
theorem dL_137 : decode code 137 = .ok (.iload_n 3, 1) := by decide +kernel
theorem dL_138 : decode code 138 = .ok (.iconst 1, 1) := by decide +kernel
theorem dL_139 : decode code 139 = .ok (.iadd, 1) := by decide +kernel
theorem dL_140 : decode code 140 = .ok (.iaload, 1) := by decide +kernel
theorem dL_141 : decode code 141 = .ok (.invokevirtual 18, 3) := by decide +kernel
theorem dL_144 : decode code 144 = .ok (.aload_n 2, 1) := by decide +kernel
theorem dL_145 : decode code 145 = .ok (.aload_n 0, 1) := by decide +kernel
theorem dL_146 : decode code 146 = .ok (.iload_n 3, 1) := by decide +kernel
theorem dL_147 : decode code 147 = .ok (.iconst 1, 1) := by decide +kernel
theorem dL_148 : decode code 148 = .ok (.iadd, 1) := by decide +kernel
theorem dL_149 : decode code 149 = .ok (.iaload, 1) := by decide +kernel
theorem dL_150 : decode code 150 = .ok (.invokevirtual 22, 3) := by decide +kernel
theorem dL_153 : decode code 153 = .ok (.if_icmp .eq 232, 3) := by decide +kernel
theorem dL_156 : decode code 156 = .ok (.iconst 0, 1) := by decide +kernel
theorem dL_157 : decode code 157 = .ok (.ireturn, 1) := by decide +kernel
theorem dL_158 : decode code 158 = .ok (.aload_n 1, 1) := by decide +kernel
theorem dL_159 : decode code 159 = .ok (.aload_n 0, 1) := by decide +kernel
theorem dL_160 : decode code 160 = .ok (.iload_n 3, 1) := by decide +kernel
theorem dL_161 : decode code 161 = .ok (.iconst 1, 1) := by decide +kernel
theorem dL_162 : decode code 162 = .ok (.iadd, 1) := by decide +kernel
theorem dL_163 : decode code 163 = .ok (.iaload, 1) := by decide +kernel
theorem dL_164 : decode code 164 = .ok (.invokevirtual 23, 3) := by decide +kernel
theorem dL_167 : decode code 167 = .ok (.aload_n 2, 1) := by decide +kernel
theorem dL_168 : decode code 168 = .ok (.aload_n 0, 1) := by decide +kernel
theorem dL_169 : decode code 169 = .ok (.iload_n 3, 1) := by decide +kernel
theorem dL_170 : decode code 170 = .ok (.iconst 1, 1) := by decide +kernel
theorem dL_171 : decode code 171 = .ok (.iadd, 1) := by decide +kernel
theorem dL_172 : decode code 172 = .ok (.iaload, 1) := by decide +kernel
theorem dL_173 : decode code 173 = .ok (.invokevirtual 27, 3) := by decide +kernel
theorem dL_176 : decode code 176 = .ok (.if_icmp .eq 209, 3) := by decide +kernel
theorem dL_179 : decode code 179 = .ok (.iconst 0, 1) := by decide +kernel
theorem dL_180 : decode code 180 = .ok (.ireturn, 1) := by decide +kernel
theorem dL_181 : decode code 181 = .ok (.aload_n 1, 1) := by decide +kernel
theorem dL_182 : decode code 182 = .ok (.aload_n 0, 1) := by decide +kernel
theorem dL_183 : decode code 183 = .ok (.iload_n 3, 1) := by decide +kernel
theorem dL_184 : decode code 184 = .ok (.iconst 1, 1) := by decide +kernel
theorem dL_185 : decode code 185 = .ok (.iadd, 1) := by decide +kernel
theorem dL_186 : decode code 186 = .ok (.iaload, 1) := by decide +kernel
theorem dL_187 : decode code 187 = .ok (.invokevirtual 28, 3) := by decide +kernel
theorem dL_190 : decode code 190 = .ok (.aload_n 2, 1) := by decide +kernel
theorem dL_191 : decode code 191 = .ok (.aload_n 0, 1) := by decide +kernel
theorem dL_192 : decode code 192 = .ok (.iload_n 3, 1) := by decide +kernel
theorem dL_193 : decode code 193 = .ok (.iconst 1, 1) := by decide +kernel
theorem dL_194 : decode code 194 = .ok (.iadd, 1) := by decide +kernel
theorem dL_195 : decode code 195 = .ok (.iaload, 1) := by decide +kernel
theorem dL_196 : decode code 196 = .ok (.invokevirtual 31, 3) := by decide +kernel
theorem dL_199 : decode code 199 = .ok (.if_icmp .eq 186, 3) := by decide +kernel
theorem dL_202 : decode code 202 = .ok (.iconst 0, 1) := by decide +kernel
theorem dL_203 : decode code 203 = .ok (.ireturn, 1) := by decide +kernel
theorem dL_204 : decode code 204 = .ok (.aload_n 1, 1) := by decide +kernel
theorem dL_205 : decode code 205 = .ok (.invokevirtual 32, 3) := by decide +kernel
theorem dL_208 : decode code 208 = .ok (.aload_n 2, 1) := by decide +kernel
theorem dL_209 : decode code 209 = .ok (.invokevirtual 36, 3) := by decide +kernel
theorem dL_212 : decode code 212 = .ok (.if_icmp .eq 173, 3) := by decide +kernel
theorem dL_215 : decode code 215 = .ok (.iconst 0, 1) := by decide +kernel
theorem dL_216 : decode code 216 = .ok (.ireturn, 1) := by decide +kernel
theorem dL_217 : decode code 217 = .ok (.aload_n 1, 1) := by decide +kernel
theorem dL_218 : decode code 218 = .ok (.aload_n 0, 1) := by decide +kernel
theorem dL_219 : decode code 219 = .ok (.iload_n 3, 1) := by decide +kernel
theorem dL_220 : decode code 220 = .ok (.iconst 1, 1) := by decide +kernel
theorem dL_221 : decode code 221 = .ok (.iadd, 1) := by decide +kernel
theorem dL_222 : decode code 222 = .ok (.iaload, 1) := by decide +kernel
theorem dL_223 : decode code 223 = .ok (.aload_n 0, 1) := by decide +kernel
theorem dL_224 : decode code 224 = .ok (.iload_n 3, 1) := by decide +kernel
theorem dL_225 : decode code 225 = .ok (.iconst 2, 1) := by decide +kernel
theorem dL_226 : decode code 226 = .ok (.iadd, 1) := by decide +kernel
theorem dL_227 : decode code 227 = .ok (.iaload, 1) := by decide +kernel
theorem dL_228 : decode code 228 = .ok (.invokevirtual 37, 3) := by decide +kernel
theorem dL_231 : decode code 231 = .ok (.aload_n 2, 1) := by decide +kernel
theorem dL_232 : decode code 232 = .ok (.aload_n 0, 1) := by decide +kernel
theorem dL_233 : decode code 233 = .ok (.iload_n 3, 1) := by decide +kernel
theorem dL_234 : decode code 234 = .ok (.iconst 1, 1) := by decide +kernel
theorem dL_235 : decode code 235 = .ok (.iadd, 1) := by decide +kernel
theorem dL_236 : decode code 236 = .ok (.iaload, 1) := by decide +kernel
theorem dL_237 : decode code 237 = .ok (.aload_n 0, 1) := by decide +kernel
theorem dL_238 : decode code 238 = .ok (.iload_n 3, 1) := by decide +kernel
theorem dL_239 : decode code 239 = .ok (.iconst 2, 1) := by decide +kernel
theorem dL_240 : decode code 240 = .ok (.iadd, 1) := by decide +kernel
theorem dL_241 : decode code 241 = .ok (.iaload, 1) := by decide +kernel
theorem dL_242 : decode code 242 = .ok (.invokevirtual 41, 3) := by decide +kernel
theorem dL_245 : decode code 245 = .ok (.if_icmp .eq 140, 3) := by decide +kernel
theorem dL_248 : decode code 248 = .ok (.iconst 0, 1) := by decide +kernel
theorem dL_249 : decode code 249 = .ok (.ireturn, 1) := by decide +kernel
theorem dL_250 : decode code 250 = .ok (.aload_n 1, 1) := by decide +kernel
theorem dL_251 : decode code 251 = .ok (.aload_n 0, 1) := by decide +kernel
theorem dL_252 : decode code 252 = .ok (.iload_n 3, 1) := by decide +kernel
theorem dL_253 : decode code 253 = .ok (.iconst 1, 1) := by decide +kernel
theorem dL_254 : decode code 254 = .ok (.iadd, 1) := by decide +kernel
theorem dL_255 : decode code 255 = .ok (.iaload, 1) := by decide +kernel
theorem dL_256 : decode code 256 = .ok (.aload_n 0, 1) := by decide +kernel
theorem dL_257 : decode code 257 = .ok (.iload_n 3, 1) := by decide +kernel
theorem dL_258 : decode code 258 = .ok (.iconst 2, 1) := by decide +kernel
theorem dL_259 : decode code 259 = .ok (.iadd, 1) := by decide +kernel
theorem dL_260 : decode code 260 = .ok (.iaload, 1) := by decide +kernel
theorem dL_261 : decode code 261 = .ok (.invokevirtual 42, 3) := by decide +kernel
theorem dL_264 : decode code 264 = .ok (.aload_n 2, 1) := by decide +kernel
theorem dL_265 : decode code 265 = .ok (.aload_n 0, 1) := by decide +kernel
theorem dL_266 : decode code 266 = .ok (.iload_n 3, 1) := by decide +kernel
theorem dL_267 : decode code 267 = .ok (.iconst 1, 1) := by decide +kernel
theorem dL_268 : decode code 268 = .ok (.iadd, 1) := by decide +kernel
theorem dL_269 : decode code 269 = .ok (.iaload, 1) := by decide +kernel
theorem dL_270 : decode code 270 = .ok (.aload_n 0, 1) := by decide +kernel
theorem dL_271 : decode code 271 = .ok (.iload_n 3, 1) := by decide +kernel
theorem dL_272 : decode code 272 = .ok (.iconst 2, 1) := by decide +kernel
theorem dL_273 : decode code 273 = .ok (.iadd, 1) := by decide +kernel
theorem dL_274 : decode code 274 = .ok (.iaload, 1) := by decide +kernel
theorem dL_275 : decode code 275 = .ok (.invokevirtual 45, 3) := by decide +kernel
theorem dL_278 : decode code 278 = .ok (.if_icmp .eq 107, 3) := by decide +kernel
theorem dL_281 : decode code 281 = .ok (.iconst 0, 1) := by decide +kernel
theorem dL_282 : decode code 282 = .ok (.ireturn, 1) := by decide +kernel
theorem dL_283 : decode code 283 = .ok (.aload_n 1, 1) := by decide +kernel
theorem dL_284 : decode code 284 = .ok (.aload_n 0, 1) := by decide +kernel
theorem dL_285 : decode code 285 = .ok (.iload_n 3, 1) := by decide +kernel
theorem dL_286 : decode code 286 = .ok (.iconst 1, 1) := by decide +kernel
theorem dL_287 : decode code 287 = .ok (.iadd, 1) := by decide +kernel
theorem dL_288 : decode code 288 = .ok (.iaload, 1) := by decide +kernel
theorem dL_289 : decode code 289 = .ok (.aload_n 0, 1) := by decide +kernel
theorem dL_290 : decode code 290 = .ok (.iload_n 3, 1) := by decide +kernel
theorem dL_291 : decode code 291 = .ok (.iconst 2, 1) := by decide +kernel
theorem dL_292 : decode code 292 = .ok (.iadd, 1) := by decide +kernel
theorem dL_293 : decode code 293 = .ok (.iaload, 1) := by decide +kernel
theorem dL_294 : decode code 294 = .ok (.invokevirtual 46, 3) := by decide +kernel
theorem dL_297 : decode code 297 = .ok (.aload_n 2, 1) := by decide +kernel
theorem dL_298 : decode code 298 = .ok (.aload_n 0, 1) := by decide +kernel
theorem dL_299 : decode code 299 = .ok (.iload_n 3, 1) := by decide +kernel
theorem dL_300 : decode code 300 = .ok (.iconst 1, 1) := by decide +kernel
theorem dL_301 : decode code 301 = .ok (.iadd, 1) := by decide +kernel
theorem dL_302 : decode code 302 = .ok (.iaload, 1) := by decide +kernel
theorem dL_303 : decode code 303 = .ok (.aload_n 0, 1) := by decide +kernel
theorem dL_304 : decode code 304 = .ok (.iload_n 3, 1) := by decide +kernel
theorem dL_305 : decode code 305 = .ok (.iconst 2, 1) := by decide +kernel
theorem dL_306 : decode code 306 = .ok (.iadd, 1) := by decide +kernel
theorem dL_307 : decode code 307 = .ok (.iaload, 1) := by decide +kernel
theorem dL_308 : decode code 308 = .ok (.invokevirtual 49, 3) := by decide +kernel
theorem dL_311 : decode code 311 = .ok (.if_icmp .eq 74, 3) := by decide +kernel
theorem dL_314 : decode code 314 = .ok (.iconst 0, 1) := by decide +kernel
theorem dL_315 : decode code 315 = .ok (.ireturn, 1) := by decide +kernel
theorem dL_316 : decode code 316 = .ok (.aload_n 1, 1) := by decide +kernel
theorem dL_317 : decode code 317 = .ok (.aload_n 0, 1) := by decide +kernel
theorem dL_318 : decode code 318 = .ok (.iload_n 3, 1) := by decide +kernel
theorem dL_319 : decode code 319 = .ok (.iconst 1, 1) := by decide +kernel
theorem dL_320 : decode code 320 = .ok (.iadd, 1) := by decide +kernel
theorem dL_321 : decode code 321 = .ok (.iaload, 1) := by decide +kernel
theorem dL_322 : decode code 322 = .ok (.aload_n 0, 1) := by decide +kernel
theorem dL_323 : decode code 323 = .ok (.iload_n 3, 1) := by decide +kernel
theorem dL_324 : decode code 324 = .ok (.iconst 2, 1) := by decide +kernel
theorem dL_325 : decode code 325 = .ok (.iadd, 1) := by decide +kernel
theorem dL_326 : decode code 326 = .ok (.iaload, 1) := by decide +kernel
theorem dL_327 : decode code 327 = .ok (.invokevirtual 50, 3) := by decide +kernel
theorem dL_330 : decode code 330 = .ok (.aload_n 2, 1) := by decide +kernel
theorem dL_331 : decode code 331 = .ok (.aload_n 0, 1) := by decide +kernel
theorem dL_332 : decode code 332 = .ok (.iload_n 3, 1) := by decide +kernel
theorem dL_333 : decode code 333 = .ok (.iconst 1, 1) := by decide +kernel
theorem dL_334 : decode code 334 = .ok (.iadd, 1) := by decide +kernel
theorem dL_335 : decode code 335 = .ok (.iaload, 1) := by decide +kernel
theorem dL_336 : decode code 336 = .ok (.aload_n 0, 1) := by decide +kernel
theorem dL_337 : decode code 337 = .ok (.iload_n 3, 1) := by decide +kernel
theorem dL_338 : decode code 338 = .ok (.iconst 2, 1) := by decide +kernel
theorem dL_339 : decode code 339 = .ok (.iadd, 1) := by decide +kernel
theorem dL_340 : decode code 340 = .ok (.iaload, 1) := by decide +kernel
theorem dL_341 : decode code 341 = .ok (.invokevirtual 53, 3) := by decide +kernel
theorem dL_344 : decode code 344 = .ok (.if_icmp .eq 41, 3) := by decide +kernel
theorem dL_347 : decode code 347 = .ok (.iconst 0, 1) := by decide +kernel
theorem dL_348 : decode code 348 = .ok (.ireturn, 1) := by decide +kernel
theorem dL_349 : decode code 349 = .ok (.aload_n 1, 1) := by decide +kernel
theorem dL_350 : decode code 350 = .ok (.invokevirtual 54, 3) := by decide +kernel
theorem dL_353 : decode code 353 = .ok (.aload_n 2, 1) := by decide +kernel
theorem dL_354 : decode code 354 = .ok (.invokevirtual 57, 3) := by decide +kernel
theorem dL_357 : decode code 357 = .ok (.if_icmp .eq 28, 3) := by decide +kernel
theorem dL_360 : decode code 360 = .ok (.iconst 0, 1) := by decide +kernel
theorem dL_361 : decode code 361 = .ok (.ireturn, 1) := by decide +kernel
theorem dL_362 : decode code 362 = .ok (.aload_n 1, 1) := by decide +kernel
theorem dL_363 : decode code 363 = .ok (.aload_n 0, 1) := by decide +kernel
theorem dL_364 : decode code 364 = .ok (.iload_n 3, 1) := by decide +kernel
theorem dL_365 : decode code 365 = .ok (.iconst 1, 1) := by decide +kernel
theorem dL_366 : decode code 366 = .ok (.iadd, 1) := by decide +kernel
theorem dL_367 : decode code 367 = .ok (.iaload, 1) := by decide +kernel
theorem dL_368 : decode code 368 = .ok (.invokevirtual 58, 3) := by decide +kernel
theorem dL_371 : decode code 371 = .ok (.aload_n 2, 1) := by decide +kernel
theorem dL_372 : decode code 372 = .ok (.aload_n 0, 1) := by decide +kernel
theorem dL_373 : decode code 373 = .ok (.iload_n 3, 1) := by decide +kernel
theorem dL_374 : decode code 374 = .ok (.iconst 1, 1) := by decide +kernel
theorem dL_375 : decode code 375 = .ok (.iadd, 1) := by decide +kernel
theorem dL_376 : decode code 376 = .ok (.iaload, 1) := by decide +kernel
theorem dL_377 : decode code 377 = .ok (.invokevirtual 61, 3) := by decide +kernel
theorem dL_380 : decode code 380 = .ok (.if_icmp .eq 5, 3) := by decide +kernel
theorem dL_383 : decode code 383 = .ok (.iconst 0, 1) := by decide +kernel
theorem dL_384 : decode code 384 = .ok (.ireturn, 1) := by decide +kernel
theorem dL_385 : decode code 385 = .ok (.iinc 3 4, 3) := by decide +kernel
theorem dL_388 : decode code 388 = .ok (.goto (-370), 3) := by decide +kernel
theorem dL_391 : decode code 391 = .ok (.iconst 1, 1) := by decide +kernel
theorem dL_392 : decode code 392 = .ok (.ireturn, 1) := by decide +kernel
theorem w_clL_7 : Cond.classLink R_law 7 (o_C 0).1 ∈ o_wt := o_in 18 (by decide +kernel) (by decide +kernel)
theorem w_liL_9 : Cond.methodLink R_law 9 yX0_init ∈ o_wt := o_in 20 (by decide +kernel) (by decide +kernel)
theorem qL_9 {G : o_G} : n_cI G R_law 9 mX0_init 0 := ⟨vX0_init, viX0_init, vnX0_init, rfl, by decide, rfl, (by decide +kernel), Or.inl w_liL_9⟩
theorem w_clL_10 : Cond.classLink R_law 10 (o_C 10).1 ∈ o_wt := o_in 710 (by decide +kernel) (by decide +kernel)
theorem w_liL_12 : Cond.methodLink R_law 12 yX10_init ∈ o_wt := o_in 712 (by decide +kernel) (by decide +kernel)
theorem qL_12 {G : o_G} : n_cI G R_law 12 mX10_init 0 := ⟨vX10_init, viX10_init, vnX10_init, rfl, by decide, rfl, (by decide +kernel), Or.inl w_liL_12⟩
theorem vX0_put : o_cd mX0_put ∈ o_wt := o_in 309 (by decide +kernel) (by decide +kernel)
theorem viX0_put : Cond.initialized yX0_put.cls ∈ o_wt := o_in 1 (by decide +kernel) (by decide +kernel)
theorem vnX0_put : Cond.instanceMethod yX0_put ∈ o_wt := o_in 307 (by decide +kernel) (by decide +kernel)
theorem veX0_put : Cond.selects yX0_put.cls yX0_put yX0_put ∈ o_wt := o_in 308 (by decide +kernel) (by decide +kernel)
theorem kL_13 : o_cV R_law 13 mX0_put 3 0 := ⟨vX0_put, o_in 306 (by decide +kernel) (by decide +kernel), viX0_put, vnX0_put, veX0_put, by decide, (by decide +kernel), rfl, rfl⟩
theorem vX10_put : o_cd mX10_put ∈ o_wt := o_in 843 (by decide +kernel) (by decide +kernel)
theorem viX10_put : Cond.initialized yX10_put.cls ∈ o_wt := o_in 11 (by decide +kernel) (by decide +kernel)
theorem vnX10_put : Cond.instanceMethod yX10_put ∈ o_wt := o_in 841 (by decide +kernel) (by decide +kernel)
theorem veX10_put : Cond.selects yX10_put.cls yX10_put yX10_put ∈ o_wt := o_in 842 (by decide +kernel) (by decide +kernel)
theorem kL_17 : o_cV R_law 17 mX10_put 3 10 := ⟨vX10_put, o_in 840 (by decide +kernel) (by decide +kernel), viX10_put, vnX10_put, veX10_put, by decide, (by decide +kernel), rfl, rfl⟩
theorem vX0_clear : o_cd mX0_clear ∈ o_wt := o_in 327 (by decide +kernel) (by decide +kernel)
theorem viX0_clear : Cond.initialized yX0_clear.cls ∈ o_wt := o_in 1 (by decide +kernel) (by decide +kernel)
theorem vnX0_clear : Cond.instanceMethod yX0_clear ∈ o_wt := o_in 325 (by decide +kernel) (by decide +kernel)
theorem veX0_clear : Cond.selects yX0_clear.cls yX0_clear yX0_clear ∈ o_wt := o_in 326 (by decide +kernel) (by decide +kernel)
theorem kL_18 : o_cV R_law 18 mX0_clear 1 0 := ⟨vX0_clear, o_in 324 (by decide +kernel) (by decide +kernel), viX0_clear, vnX0_clear, veX0_clear, by decide, (by decide +kernel), rfl, rfl⟩
theorem vX10_clear : o_cd mX10_clear ∈ o_wt := o_in 850 (by decide +kernel) (by decide +kernel)
theorem viX10_clear : Cond.initialized yX10_clear.cls ∈ o_wt := o_in 11 (by decide +kernel) (by decide +kernel)
theorem vnX10_clear : Cond.instanceMethod yX10_clear ∈ o_wt := o_in 848 (by decide +kernel) (by decide +kernel)
theorem veX10_clear : Cond.selects yX10_clear.cls yX10_clear yX10_clear ∈ o_wt := o_in 849 (by decide +kernel) (by decide +kernel)
theorem kL_22 : o_cV R_law 22 mX10_clear 1 10 := ⟨vX10_clear, o_in 847 (by decide +kernel) (by decide +kernel), viX10_clear, vnX10_clear, veX10_clear, by decide, (by decide +kernel), rfl, rfl⟩
theorem vX0_size : o_cd mX0_size ∈ o_wt := o_in 331 (by decide +kernel) (by decide +kernel)
theorem viX0_size : Cond.initialized yX0_size.cls ∈ o_wt := o_in 1 (by decide +kernel) (by decide +kernel)
theorem vnX0_size : Cond.instanceMethod yX0_size ∈ o_wt := o_in 329 (by decide +kernel) (by decide +kernel)
theorem veX0_size : Cond.selects yX0_size.cls yX0_size yX0_size ∈ o_wt := o_in 330 (by decide +kernel) (by decide +kernel)
theorem kL_23 : o_cV R_law 23 mX0_size 1 0 := ⟨vX0_size, o_in 328 (by decide +kernel) (by decide +kernel), viX0_size, vnX0_size, veX0_size, by decide, (by decide +kernel), rfl, rfl⟩
theorem vX10_size : o_cd mX10_size ∈ o_wt := o_in 854 (by decide +kernel) (by decide +kernel)
theorem viX10_size : Cond.initialized yX10_size.cls ∈ o_wt := o_in 11 (by decide +kernel) (by decide +kernel)
theorem vnX10_size : Cond.instanceMethod yX10_size ∈ o_wt := o_in 852 (by decide +kernel) (by decide +kernel)
theorem veX10_size : Cond.selects yX10_size.cls yX10_size yX10_size ∈ o_wt := o_in 853 (by decide +kernel) (by decide +kernel)
theorem kL_27 : o_cV R_law 27 mX10_size 1 10 := ⟨vX10_size, o_in 851 (by decide +kernel) (by decide +kernel), viX10_size, vnX10_size, veX10_size, by decide, (by decide +kernel), rfl, rfl⟩
theorem vX0_call : o_cd mX0_call ∈ o_wt := o_in 335 (by decide +kernel) (by decide +kernel)
theorem viX0_call : Cond.initialized yX0_call.cls ∈ o_wt := o_in 1 (by decide +kernel) (by decide +kernel)
theorem vnX0_call : Cond.instanceMethod yX0_call ∈ o_wt := o_in 333 (by decide +kernel) (by decide +kernel)
theorem veX0_call : Cond.selects yX0_call.cls yX0_call yX0_call ∈ o_wt := o_in 334 (by decide +kernel) (by decide +kernel)
theorem kL_28 : o_cV R_law 28 mX0_call 1 0 := ⟨vX0_call, o_in 332 (by decide +kernel) (by decide +kernel), viX0_call, vnX0_call, veX0_call, by decide, (by decide +kernel), rfl, rfl⟩
theorem vX10_call : o_cd mX10_call ∈ o_wt := o_in 858 (by decide +kernel) (by decide +kernel)
theorem viX10_call : Cond.initialized yX10_call.cls ∈ o_wt := o_in 11 (by decide +kernel) (by decide +kernel)
theorem vnX10_call : Cond.instanceMethod yX10_call ∈ o_wt := o_in 856 (by decide +kernel) (by decide +kernel)
theorem veX10_call : Cond.selects yX10_call.cls yX10_call yX10_call ∈ o_wt := o_in 857 (by decide +kernel) (by decide +kernel)
theorem kL_31 : o_cV R_law 31 mX10_call 1 10 := ⟨vX10_call, o_in 855 (by decide +kernel) (by decide +kernel), viX10_call, vnX10_call, veX10_call, by decide, (by decide +kernel), rfl, rfl⟩
theorem vX0_reads : o_cd mX0_reads ∈ o_wt := o_in 672 (by decide +kernel) (by decide +kernel)
theorem viX0_reads : Cond.initialized yX0_reads.cls ∈ o_wt := o_in 1 (by decide +kernel) (by decide +kernel)
theorem vnX0_reads : Cond.instanceMethod yX0_reads ∈ o_wt := o_in 670 (by decide +kernel) (by decide +kernel)
theorem veX0_reads : Cond.selects yX0_reads.cls yX0_reads yX0_reads ∈ o_wt := o_in 671 (by decide +kernel) (by decide +kernel)
theorem kL_32 : o_cV R_law 32 mX0_reads 0 0 := ⟨vX0_reads, o_in 669 (by decide +kernel) (by decide +kernel), viX0_reads, vnX0_reads, veX0_reads, by decide, (by decide +kernel), rfl, rfl⟩
theorem vX10_reads : o_cd mX10_reads ∈ o_wt := o_in 964 (by decide +kernel) (by decide +kernel)
theorem viX10_reads : Cond.initialized yX10_reads.cls ∈ o_wt := o_in 11 (by decide +kernel) (by decide +kernel)
theorem vnX10_reads : Cond.instanceMethod yX10_reads ∈ o_wt := o_in 962 (by decide +kernel) (by decide +kernel)
theorem veX10_reads : Cond.selects yX10_reads.cls yX10_reads yX10_reads ∈ o_wt := o_in 963 (by decide +kernel) (by decide +kernel)
theorem kL_36 : o_cV R_law 36 mX10_reads 0 10 := ⟨vX10_reads, o_in 961 (by decide +kernel) (by decide +kernel), viX10_reads, vnX10_reads, veX10_reads, by decide, (by decide +kernel), rfl, rfl⟩
theorem vX0_place : o_cd mX0_place ∈ o_wt := o_in 676 (by decide +kernel) (by decide +kernel)
theorem viX0_place : Cond.initialized yX0_place.cls ∈ o_wt := o_in 1 (by decide +kernel) (by decide +kernel)
theorem vnX0_place : Cond.instanceMethod yX0_place ∈ o_wt := o_in 674 (by decide +kernel) (by decide +kernel)
theorem veX0_place : Cond.selects yX0_place.cls yX0_place yX0_place ∈ o_wt := o_in 675 (by decide +kernel) (by decide +kernel)
theorem kL_37 : o_cV R_law 37 mX0_place 2 0 := ⟨vX0_place, o_in 673 (by decide +kernel) (by decide +kernel), viX0_place, vnX0_place, veX0_place, by decide, (by decide +kernel), rfl, rfl⟩
theorem vX10_place : o_cd mX10_place ∈ o_wt := o_in 968 (by decide +kernel) (by decide +kernel)
theorem viX10_place : Cond.initialized yX10_place.cls ∈ o_wt := o_in 11 (by decide +kernel) (by decide +kernel)
theorem vnX10_place : Cond.instanceMethod yX10_place ∈ o_wt := o_in 966 (by decide +kernel) (by decide +kernel)
theorem veX10_place : Cond.selects yX10_place.cls yX10_place yX10_place ∈ o_wt := o_in 967 (by decide +kernel) (by decide +kernel)
theorem kL_41 : o_cV R_law 41 mX10_place 2 10 := ⟨vX10_place, o_in 965 (by decide +kernel) (by decide +kernel), viX10_place, vnX10_place, veX10_place, by decide, (by decide +kernel), rfl, rfl⟩
theorem vX0_step : o_cd mX0_step ∈ o_wt := o_in 684 (by decide +kernel) (by decide +kernel)
theorem viX0_step : Cond.initialized yX0_step.cls ∈ o_wt := o_in 1 (by decide +kernel) (by decide +kernel)
theorem vnX0_step : Cond.instanceMethod yX0_step ∈ o_wt := o_in 682 (by decide +kernel) (by decide +kernel)
theorem veX0_step : Cond.selects yX0_step.cls yX0_step yX0_step ∈ o_wt := o_in 683 (by decide +kernel) (by decide +kernel)
theorem kL_42 : o_cV R_law 42 mX0_step 2 0 := ⟨vX0_step, o_in 681 (by decide +kernel) (by decide +kernel), viX0_step, vnX0_step, veX0_step, by decide, (by decide +kernel), rfl, rfl⟩
theorem vX10_step : o_cd mX10_step ∈ o_wt := o_in 972 (by decide +kernel) (by decide +kernel)
theorem viX10_step : Cond.initialized yX10_step.cls ∈ o_wt := o_in 11 (by decide +kernel) (by decide +kernel)
theorem vnX10_step : Cond.instanceMethod yX10_step ∈ o_wt := o_in 970 (by decide +kernel) (by decide +kernel)
theorem veX10_step : Cond.selects yX10_step.cls yX10_step yX10_step ∈ o_wt := o_in 971 (by decide +kernel) (by decide +kernel)
theorem kL_45 : o_cV R_law 45 mX10_step 2 10 := ⟨vX10_step, o_in 969 (by decide +kernel) (by decide +kernel), viX10_step, vnX10_step, veX10_step, by decide, (by decide +kernel), rfl, rfl⟩
theorem vX0_seen : o_cd mX0_seen ∈ o_wt := o_in 689 (by decide +kernel) (by decide +kernel)
theorem viX0_seen : Cond.initialized yX0_seen.cls ∈ o_wt := o_in 1 (by decide +kernel) (by decide +kernel)
theorem vnX0_seen : Cond.instanceMethod yX0_seen ∈ o_wt := o_in 687 (by decide +kernel) (by decide +kernel)
theorem veX0_seen : Cond.selects yX0_seen.cls yX0_seen yX0_seen ∈ o_wt := o_in 688 (by decide +kernel) (by decide +kernel)
theorem kL_46 : o_cV R_law 46 mX0_seen 2 0 := ⟨vX0_seen, o_in 686 (by decide +kernel) (by decide +kernel), viX0_seen, vnX0_seen, veX0_seen, by decide, (by decide +kernel), rfl, rfl⟩
theorem vX10_seen : o_cd mX10_seen ∈ o_wt := o_in 976 (by decide +kernel) (by decide +kernel)
theorem viX10_seen : Cond.initialized yX10_seen.cls ∈ o_wt := o_in 11 (by decide +kernel) (by decide +kernel)
theorem vnX10_seen : Cond.instanceMethod yX10_seen ∈ o_wt := o_in 974 (by decide +kernel) (by decide +kernel)
theorem veX10_seen : Cond.selects yX10_seen.cls yX10_seen yX10_seen ∈ o_wt := o_in 975 (by decide +kernel) (by decide +kernel)
theorem kL_49 : o_cV R_law 49 mX10_seen 2 10 := ⟨vX10_seen, o_in 973 (by decide +kernel) (by decide +kernel), viX10_seen, vnX10_seen, veX10_seen, by decide, (by decide +kernel), rfl, rfl⟩
theorem vX0_links : o_cd mX0_links ∈ o_wt := o_in 694 (by decide +kernel) (by decide +kernel)
theorem viX0_links : Cond.initialized yX0_links.cls ∈ o_wt := o_in 1 (by decide +kernel) (by decide +kernel)
theorem vnX0_links : Cond.instanceMethod yX0_links ∈ o_wt := o_in 692 (by decide +kernel) (by decide +kernel)
theorem veX0_links : Cond.selects yX0_links.cls yX0_links yX0_links ∈ o_wt := o_in 693 (by decide +kernel) (by decide +kernel)
theorem kL_50 : o_cV R_law 50 mX0_links 2 0 := ⟨vX0_links, o_in 691 (by decide +kernel) (by decide +kernel), viX0_links, vnX0_links, veX0_links, by decide, (by decide +kernel), rfl, rfl⟩
theorem vX10_links : o_cd mX10_links ∈ o_wt := o_in 980 (by decide +kernel) (by decide +kernel)
theorem viX10_links : Cond.initialized yX10_links.cls ∈ o_wt := o_in 11 (by decide +kernel) (by decide +kernel)
theorem vnX10_links : Cond.instanceMethod yX10_links ∈ o_wt := o_in 978 (by decide +kernel) (by decide +kernel)
theorem veX10_links : Cond.selects yX10_links.cls yX10_links yX10_links ∈ o_wt := o_in 979 (by decide +kernel) (by decide +kernel)
theorem kL_53 : o_cV R_law 53 mX10_links 2 10 := ⟨vX10_links, o_in 977 (by decide +kernel) (by decide +kernel), viX10_links, vnX10_links, veX10_links, by decide, (by decide +kernel), rfl, rfl⟩
theorem vX0_length : o_cd mX0_length ∈ o_wt := o_in 705 (by decide +kernel) (by decide +kernel)
theorem viX0_length : Cond.initialized yX0_length.cls ∈ o_wt := o_in 1 (by decide +kernel) (by decide +kernel)
theorem vnX0_length : Cond.instanceMethod yX0_length ∈ o_wt := o_in 703 (by decide +kernel) (by decide +kernel)
theorem veX0_length : Cond.selects yX0_length.cls yX0_length yX0_length ∈ o_wt := o_in 704 (by decide +kernel) (by decide +kernel)
theorem kL_54 : o_cV R_law 54 mX0_length 0 0 := ⟨vX0_length, o_in 702 (by decide +kernel) (by decide +kernel), viX0_length, vnX0_length, veX0_length, by decide, (by decide +kernel), rfl, rfl⟩
theorem vX10_length : o_cd mX10_length ∈ o_wt := o_in 984 (by decide +kernel) (by decide +kernel)
theorem viX10_length : Cond.initialized yX10_length.cls ∈ o_wt := o_in 11 (by decide +kernel) (by decide +kernel)
theorem vnX10_length : Cond.instanceMethod yX10_length ∈ o_wt := o_in 982 (by decide +kernel) (by decide +kernel)
theorem veX10_length : Cond.selects yX10_length.cls yX10_length yX10_length ∈ o_wt := o_in 983 (by decide +kernel) (by decide +kernel)
theorem kL_57 : o_cV R_law 57 mX10_length 0 10 := ⟨vX10_length, o_in 981 (by decide +kernel) (by decide +kernel), viX10_length, vnX10_length, veX10_length, by decide, (by decide +kernel), rfl, rfl⟩
theorem vX0_letter : o_cd mX0_letter ∈ o_wt := o_in 709 (by decide +kernel) (by decide +kernel)
theorem viX0_letter : Cond.initialized yX0_letter.cls ∈ o_wt := o_in 1 (by decide +kernel) (by decide +kernel)
theorem vnX0_letter : Cond.instanceMethod yX0_letter ∈ o_wt := o_in 707 (by decide +kernel) (by decide +kernel)
theorem veX0_letter : Cond.selects yX0_letter.cls yX0_letter yX0_letter ∈ o_wt := o_in 708 (by decide +kernel) (by decide +kernel)
theorem kL_58 : o_cV R_law 58 mX0_letter 1 0 := ⟨vX0_letter, o_in 706 (by decide +kernel) (by decide +kernel), viX0_letter, vnX0_letter, veX0_letter, by decide, (by decide +kernel), rfl, rfl⟩
theorem vX10_letter : o_cd mX10_letter ∈ o_wt := o_in 1032 (by decide +kernel) (by decide +kernel)
theorem viX10_letter : Cond.initialized yX10_letter.cls ∈ o_wt := o_in 11 (by decide +kernel) (by decide +kernel)
theorem vnX10_letter : Cond.instanceMethod yX10_letter ∈ o_wt := o_in 1030 (by decide +kernel) (by decide +kernel)
theorem veX10_letter : Cond.selects yX10_letter.cls yX10_letter yX10_letter ∈ o_wt := o_in 1031 (by decide +kernel) (by decide +kernel)
theorem kL_61 : o_cV R_law 61 mX10_letter 1 10 := ⟨vX10_letter, o_in 1029 (by decide +kernel) (by decide +kernel), viX10_letter, vnX10_letter, veX10_letter, by decide, (by decide +kernel), rfl, rfl⟩

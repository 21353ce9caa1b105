/-! THE LAW: the cases of its switch (printed by wip/mk5.py) -/
section CASES
variable {l : Launch} {D : va_G} {kA : Nat → ClassId} {x b L : Nat} {xs : Nat → Int32} {ad : Nat → Nat} {nm : String} {i : o_I} {r : o_R} {q : Nat}
theorem lc_put (hb : b < x) (hL : 4 * q + 4 ≤ L) (h2048 : L ≤ 2048) (hI : lw_I (g_G l D kA x b L xs ad) x i r) (kk : ∀ (j : o_I) (s : o_R), lw_I (g_G l D kA x b L xs ad) x j s → OkC (g_G l D kA x b L xs ad) (mLaw nm) (l_C x b) 385 [some (.ref b), some (.ref x), some (.ref (x + 395)), some (.int (nI (4 * q)))] [] j s) : OkC (g_G l D kA x b L xs ad) (mLaw nm) (l_C x b) 92 [some (.ref b), some (.ref x), some (.ref (x + 395)), some (.int (nI (4 * q)))] [] i r := by
  have hO := (lw_O hI).1
  have hM := (lw_O hI).2
  refine ok_aload_n 1 dL_92 rfl rfl ?_
  refine ok_aload_n 0 dL_93 rfl rfl ?_
  refine ok_iload_n 3 dL_94 rfl rfl ?_
  refine ok_iconst 1 dL_95 (by decide) ?_
  refine ok_iadd dL_96 ?_
  rw [show nI (4 * q) + (1 : Int32) = nI (4 * q + 1) from nI_add (4 * q) 1]
  refine ok_sld dL_97 hb (show (4 * q + 1) < L by omega) h2048 ?_
  refine ok_aload_n 0 dL_98 rfl rfl ?_
  refine ok_iload_n 3 dL_99 rfl rfl ?_
  refine ok_iconst 2 dL_100 (by decide) ?_
  refine ok_iadd dL_101 ?_
  rw [show nI (4 * q) + (2 : Int32) = nI (4 * q + 2) from nI_add (4 * q) 2]
  refine ok_sld dL_102 hb (show (4 * q + 2) < L by omega) h2048 ?_
  refine ok_aload_n 0 dL_103 rfl rfl ?_
  refine ok_iload_n 3 dL_104 rfl rfl ?_
  refine ok_iconst 3 dL_105 (by decide) ?_
  refine ok_iadd dL_106 ?_
  rw [show nI (4 * q) + (3 : Int32) = nI (4 * q + 3) from nI_add (4 * q) 3]
  refine ok_sld dL_107 hb (show (4 * q + 3) < L by omega) h2048 ?_
  refine ok_cVi (d := 9) (rest := []) l_room 0 [.int (xs (4 * q + 1)), .int (xs (4 * q + 2)), .int (xs (4 * q + 3))] dL_108 kL_13 hO rfl rfl (Nat.le_of_ble_eq_true rfl) (L_put hI) (fun v0 j0 h0 => ?_)
  refine ok_aload_n 2 dL_111 rfl rfl ?_
  refine ok_aload_n 0 dL_112 rfl rfl ?_
  refine ok_iload_n 3 dL_113 rfl rfl ?_
  refine ok_iconst 1 dL_114 (by decide) ?_
  refine ok_iadd dL_115 ?_
  rw [show nI (4 * q) + (1 : Int32) = nI (4 * q + 1) from nI_add (4 * q) 1]
  refine ok_sld dL_116 hb (show (4 * q + 1) < L by omega) h2048 ?_
  refine ok_aload_n 0 dL_117 rfl rfl ?_
  refine ok_iload_n 3 dL_118 rfl rfl ?_
  refine ok_iconst 2 dL_119 (by decide) ?_
  refine ok_iadd dL_120 ?_
  rw [show nI (4 * q) + (2 : Int32) = nI (4 * q + 2) from nI_add (4 * q) 2]
  refine ok_sld dL_121 hb (show (4 * q + 2) < L by omega) h2048 ?_
  refine ok_aload_n 0 dL_122 rfl rfl ?_
  refine ok_iload_n 3 dL_123 rfl rfl ?_
  refine ok_iconst 3 dL_124 (by decide) ?_
  refine ok_iadd dL_125 ?_
  rw [show nI (4 * q) + (3 : Int32) = nI (4 * q + 3) from nI_add (4 * q) 3]
  refine ok_sld dL_126 hb (show (4 * q + 3) < L by omega) h2048 ?_
  refine ok_cVi (d := 9) (rest := [.int v0]) l_room 10 [.int (xs (4 * q + 1)), .int (xs (4 * q + 2)), .int (xs (4 * q + 3))] dL_127 kL_17 hM rfl rfl (Nat.le_of_ble_eq_true rfl) h0 (fun v1 j1 h1 => ?_)
  obtain ⟨e1, hI1⟩ := h1
  refine ok_ic_eq 385 dL_130 (by decide) (fun _ => kk j1 r hI1) (fun w => absurd e1.symm w)
theorem lc_clear (hb : b < x) (hL : 4 * q + 4 ≤ L) (h2048 : L ≤ 2048) (hI : lw_I (g_G l D kA x b L xs ad) x i r) (kk : ∀ (j : o_I) (s : o_R), lw_I (g_G l D kA x b L xs ad) x j s → OkC (g_G l D kA x b L xs ad) (mLaw nm) (l_C x b) 385 [some (.ref b), some (.ref x), some (.ref (x + 395)), some (.int (nI (4 * q)))] [] j s) : OkC (g_G l D kA x b L xs ad) (mLaw nm) (l_C x b) 135 [some (.ref b), some (.ref x), some (.ref (x + 395)), some (.int (nI (4 * q)))] [] i r := by
  have hO := (lw_O hI).1
  have hM := (lw_O hI).2
  refine ok_aload_n 1 dL_135 rfl rfl ?_
  refine ok_aload_n 0 dL_136 rfl rfl ?_
  refine ok_iload_n 3 dL_137 rfl rfl ?_
  refine ok_iconst 1 dL_138 (by decide) ?_
  refine ok_iadd dL_139 ?_
  rw [show nI (4 * q) + (1 : Int32) = nI (4 * q + 1) from nI_add (4 * q) 1]
  refine ok_sld dL_140 hb (show (4 * q + 1) < L by omega) h2048 ?_
  refine ok_cVi (d := 9) (rest := []) l_room 0 [.int (xs (4 * q + 1))] dL_141 kL_18 hO rfl rfl (Nat.le_of_ble_eq_true rfl) (L_clear hI) (fun v0 j0 h0 => ?_)
  refine ok_aload_n 2 dL_144 rfl rfl ?_
  refine ok_aload_n 0 dL_145 rfl rfl ?_
  refine ok_iload_n 3 dL_146 rfl rfl ?_
  refine ok_iconst 1 dL_147 (by decide) ?_
  refine ok_iadd dL_148 ?_
  rw [show nI (4 * q) + (1 : Int32) = nI (4 * q + 1) from nI_add (4 * q) 1]
  refine ok_sld dL_149 hb (show (4 * q + 1) < L by omega) h2048 ?_
  refine ok_cVi (d := 9) (rest := [.int v0]) l_room 10 [.int (xs (4 * q + 1))] dL_150 kL_22 hM rfl rfl (Nat.le_of_ble_eq_true rfl) h0 (fun v1 j1 h1 => ?_)
  obtain ⟨e1, hI1⟩ := h1
  refine ok_ic_eq 385 dL_153 (by decide) (fun _ => kk j1 r hI1) (fun w => absurd e1.symm w)
theorem lc_size (hb : b < x) (hL : 4 * q + 4 ≤ L) (h2048 : L ≤ 2048) (hI : lw_I (g_G l D kA x b L xs ad) x i r) (kk : ∀ (j : o_I) (s : o_R), lw_I (g_G l D kA x b L xs ad) x j s → OkC (g_G l D kA x b L xs ad) (mLaw nm) (l_C x b) 385 [some (.ref b), some (.ref x), some (.ref (x + 395)), some (.int (nI (4 * q)))] [] j s) : OkC (g_G l D kA x b L xs ad) (mLaw nm) (l_C x b) 158 [some (.ref b), some (.ref x), some (.ref (x + 395)), some (.int (nI (4 * q)))] [] i r := by
  have hO := (lw_O hI).1
  have hM := (lw_O hI).2
  refine ok_aload_n 1 dL_158 rfl rfl ?_
  refine ok_aload_n 0 dL_159 rfl rfl ?_
  refine ok_iload_n 3 dL_160 rfl rfl ?_
  refine ok_iconst 1 dL_161 (by decide) ?_
  refine ok_iadd dL_162 ?_
  rw [show nI (4 * q) + (1 : Int32) = nI (4 * q + 1) from nI_add (4 * q) 1]
  refine ok_sld dL_163 hb (show (4 * q + 1) < L by omega) h2048 ?_
  refine ok_cVi (d := 9) (rest := []) l_room 0 [.int (xs (4 * q + 1))] dL_164 kL_23 hO rfl rfl (Nat.le_of_ble_eq_true rfl) (L_size hI) (fun v0 j0 h0 => ?_)
  refine ok_aload_n 2 dL_167 rfl rfl ?_
  refine ok_aload_n 0 dL_168 rfl rfl ?_
  refine ok_iload_n 3 dL_169 rfl rfl ?_
  refine ok_iconst 1 dL_170 (by decide) ?_
  refine ok_iadd dL_171 ?_
  rw [show nI (4 * q) + (1 : Int32) = nI (4 * q + 1) from nI_add (4 * q) 1]
  refine ok_sld dL_172 hb (show (4 * q + 1) < L by omega) h2048 ?_
  refine ok_cVi (d := 9) (rest := [.int v0]) l_room 10 [.int (xs (4 * q + 1))] dL_173 kL_27 hM rfl rfl (Nat.le_of_ble_eq_true rfl) h0 (fun v1 j1 h1 => ?_)
  obtain ⟨e1, hI1⟩ := h1
  refine ok_ic_eq 385 dL_176 (by decide) (fun _ => kk j1 r hI1) (fun w => absurd e1.symm w)
theorem lc_call (hb : b < x) (hL : 4 * q + 4 ≤ L) (h2048 : L ≤ 2048) (hI : lw_I (g_G l D kA x b L xs ad) x i r) (kk : ∀ (j : o_I) (s : o_R), lw_I (g_G l D kA x b L xs ad) x j s → OkC (g_G l D kA x b L xs ad) (mLaw nm) (l_C x b) 385 [some (.ref b), some (.ref x), some (.ref (x + 395)), some (.int (nI (4 * q)))] [] j s) : OkC (g_G l D kA x b L xs ad) (mLaw nm) (l_C x b) 181 [some (.ref b), some (.ref x), some (.ref (x + 395)), some (.int (nI (4 * q)))] [] i r := by
  have hO := (lw_O hI).1
  have hM := (lw_O hI).2
  refine ok_aload_n 1 dL_181 rfl rfl ?_
  refine ok_aload_n 0 dL_182 rfl rfl ?_
  refine ok_iload_n 3 dL_183 rfl rfl ?_
  refine ok_iconst 1 dL_184 (by decide) ?_
  refine ok_iadd dL_185 ?_
  rw [show nI (4 * q) + (1 : Int32) = nI (4 * q + 1) from nI_add (4 * q) 1]
  refine ok_sld dL_186 hb (show (4 * q + 1) < L by omega) h2048 ?_
  refine ok_cVir (d := 9) (rest := []) l_room 0 [.int (xs (4 * q + 1))] dL_187 kL_28 hO rfl rfl (Nat.le_of_ble_eq_true rfl) (L_call g_cst hI) (fun v0 j0 r0 h0 => ?_)
  refine ok_aload_n 2 dL_190 rfl rfl ?_
  refine ok_aload_n 0 dL_191 rfl rfl ?_
  refine ok_iload_n 3 dL_192 rfl rfl ?_
  refine ok_iconst 1 dL_193 (by decide) ?_
  refine ok_iadd dL_194 ?_
  rw [show nI (4 * q) + (1 : Int32) = nI (4 * q + 1) from nI_add (4 * q) 1]
  refine ok_sld dL_195 hb (show (4 * q + 1) < L by omega) h2048 ?_
  refine ok_cVi (d := 9) (rest := [.int v0]) l_room 10 [.int (xs (4 * q + 1))] dL_196 kL_31 hM rfl rfl (Nat.le_of_ble_eq_true rfl) h0 (fun v1 j1 h1 => ?_)
  obtain ⟨e1, hI1⟩ := h1
  refine ok_ic_eq 385 dL_199 (by decide) (fun _ => kk j1 r0 hI1) (fun w => absurd e1.symm w)
theorem lc_reads (hb : b < x) (hL : 4 * q + 4 ≤ L) (h2048 : L ≤ 2048) (hI : lw_I (g_G l D kA x b L xs ad) x i r) (kk : ∀ (j : o_I) (s : o_R), lw_I (g_G l D kA x b L xs ad) x j s → OkC (g_G l D kA x b L xs ad) (mLaw nm) (l_C x b) 385 [some (.ref b), some (.ref x), some (.ref (x + 395)), some (.int (nI (4 * q)))] [] j s) : OkC (g_G l D kA x b L xs ad) (mLaw nm) (l_C x b) 204 [some (.ref b), some (.ref x), some (.ref (x + 395)), some (.int (nI (4 * q)))] [] i r := by
  have hO := (lw_O hI).1
  have hM := (lw_O hI).2
  refine ok_aload_n 1 dL_204 rfl rfl ?_
  refine ok_cVi (d := 9) (rest := []) l_room 0 [] dL_205 kL_32 hO rfl rfl (Nat.le_of_ble_eq_true rfl) (L_reads hI) (fun v0 j0 h0 => ?_)
  refine ok_aload_n 2 dL_208 rfl rfl ?_
  refine ok_cVi (d := 9) (rest := [.int v0]) l_room 10 [] dL_209 kL_36 hM rfl rfl (Nat.le_of_ble_eq_true rfl) h0 (fun v1 j1 h1 => ?_)
  obtain ⟨e1, hI1⟩ := h1
  refine ok_ic_eq 385 dL_212 (by decide) (fun _ => kk j1 r hI1) (fun w => absurd e1.symm w)
theorem lc_place (hb : b < x) (hL : 4 * q + 4 ≤ L) (h2048 : L ≤ 2048) (hI : lw_I (g_G l D kA x b L xs ad) x i r) (kk : ∀ (j : o_I) (s : o_R), lw_I (g_G l D kA x b L xs ad) x j s → OkC (g_G l D kA x b L xs ad) (mLaw nm) (l_C x b) 385 [some (.ref b), some (.ref x), some (.ref (x + 395)), some (.int (nI (4 * q)))] [] j s) : OkC (g_G l D kA x b L xs ad) (mLaw nm) (l_C x b) 217 [some (.ref b), some (.ref x), some (.ref (x + 395)), some (.int (nI (4 * q)))] [] i r := by
  have hO := (lw_O hI).1
  have hM := (lw_O hI).2
  refine ok_aload_n 1 dL_217 rfl rfl ?_
  refine ok_aload_n 0 dL_218 rfl rfl ?_
  refine ok_iload_n 3 dL_219 rfl rfl ?_
  refine ok_iconst 1 dL_220 (by decide) ?_
  refine ok_iadd dL_221 ?_
  rw [show nI (4 * q) + (1 : Int32) = nI (4 * q + 1) from nI_add (4 * q) 1]
  refine ok_sld dL_222 hb (show (4 * q + 1) < L by omega) h2048 ?_
  refine ok_aload_n 0 dL_223 rfl rfl ?_
  refine ok_iload_n 3 dL_224 rfl rfl ?_
  refine ok_iconst 2 dL_225 (by decide) ?_
  refine ok_iadd dL_226 ?_
  rw [show nI (4 * q) + (2 : Int32) = nI (4 * q + 2) from nI_add (4 * q) 2]
  refine ok_sld dL_227 hb (show (4 * q + 2) < L by omega) h2048 ?_
  refine ok_cVi (d := 9) (rest := []) l_room 0 [.int (xs (4 * q + 1)), .int (xs (4 * q + 2))] dL_228 kL_37 hO rfl rfl (Nat.le_of_ble_eq_true rfl) (L_place hI) (fun v0 j0 h0 => ?_)
  refine ok_aload_n 2 dL_231 rfl rfl ?_
  refine ok_aload_n 0 dL_232 rfl rfl ?_
  refine ok_iload_n 3 dL_233 rfl rfl ?_
  refine ok_iconst 1 dL_234 (by decide) ?_
  refine ok_iadd dL_235 ?_
  rw [show nI (4 * q) + (1 : Int32) = nI (4 * q + 1) from nI_add (4 * q) 1]
  refine ok_sld dL_236 hb (show (4 * q + 1) < L by omega) h2048 ?_
  refine ok_aload_n 0 dL_237 rfl rfl ?_
  refine ok_iload_n 3 dL_238 rfl rfl ?_
  refine ok_iconst 2 dL_239 (by decide) ?_
  refine ok_iadd dL_240 ?_
  rw [show nI (4 * q) + (2 : Int32) = nI (4 * q + 2) from nI_add (4 * q) 2]
  refine ok_sld dL_241 hb (show (4 * q + 2) < L by omega) h2048 ?_
  refine ok_cVi (d := 9) (rest := [.int v0]) l_room 10 [.int (xs (4 * q + 1)), .int (xs (4 * q + 2))] dL_242 kL_41 hM rfl rfl (Nat.le_of_ble_eq_true rfl) h0 (fun v1 j1 h1 => ?_)
  obtain ⟨e1, hI1⟩ := h1
  refine ok_ic_eq 385 dL_245 (by decide) (fun _ => kk j1 r hI1) (fun w => absurd e1.symm w)
theorem lc_step (hb : b < x) (hL : 4 * q + 4 ≤ L) (h2048 : L ≤ 2048) (hI : lw_I (g_G l D kA x b L xs ad) x i r) (kk : ∀ (j : o_I) (s : o_R), lw_I (g_G l D kA x b L xs ad) x j s → OkC (g_G l D kA x b L xs ad) (mLaw nm) (l_C x b) 385 [some (.ref b), some (.ref x), some (.ref (x + 395)), some (.int (nI (4 * q)))] [] j s) : OkC (g_G l D kA x b L xs ad) (mLaw nm) (l_C x b) 250 [some (.ref b), some (.ref x), some (.ref (x + 395)), some (.int (nI (4 * q)))] [] i r := by
  have hO := (lw_O hI).1
  have hM := (lw_O hI).2
  refine ok_aload_n 1 dL_250 rfl rfl ?_
  refine ok_aload_n 0 dL_251 rfl rfl ?_
  refine ok_iload_n 3 dL_252 rfl rfl ?_
  refine ok_iconst 1 dL_253 (by decide) ?_
  refine ok_iadd dL_254 ?_
  rw [show nI (4 * q) + (1 : Int32) = nI (4 * q + 1) from nI_add (4 * q) 1]
  refine ok_sld dL_255 hb (show (4 * q + 1) < L by omega) h2048 ?_
  refine ok_aload_n 0 dL_256 rfl rfl ?_
  refine ok_iload_n 3 dL_257 rfl rfl ?_
  refine ok_iconst 2 dL_258 (by decide) ?_
  refine ok_iadd dL_259 ?_
  rw [show nI (4 * q) + (2 : Int32) = nI (4 * q + 2) from nI_add (4 * q) 2]
  refine ok_sld dL_260 hb (show (4 * q + 2) < L by omega) h2048 ?_
  refine ok_cVi (d := 9) (rest := []) l_room 0 [.int (xs (4 * q + 1)), .int (xs (4 * q + 2))] dL_261 kL_42 hO rfl rfl (Nat.le_of_ble_eq_true rfl) (L_step hI) (fun v0 j0 h0 => ?_)
  refine ok_aload_n 2 dL_264 rfl rfl ?_
  refine ok_aload_n 0 dL_265 rfl rfl ?_
  refine ok_iload_n 3 dL_266 rfl rfl ?_
  refine ok_iconst 1 dL_267 (by decide) ?_
  refine ok_iadd dL_268 ?_
  rw [show nI (4 * q) + (1 : Int32) = nI (4 * q + 1) from nI_add (4 * q) 1]
  refine ok_sld dL_269 hb (show (4 * q + 1) < L by omega) h2048 ?_
  refine ok_aload_n 0 dL_270 rfl rfl ?_
  refine ok_iload_n 3 dL_271 rfl rfl ?_
  refine ok_iconst 2 dL_272 (by decide) ?_
  refine ok_iadd dL_273 ?_
  rw [show nI (4 * q) + (2 : Int32) = nI (4 * q + 2) from nI_add (4 * q) 2]
  refine ok_sld dL_274 hb (show (4 * q + 2) < L by omega) h2048 ?_
  refine ok_cVi (d := 9) (rest := [.int v0]) l_room 10 [.int (xs (4 * q + 1)), .int (xs (4 * q + 2))] dL_275 kL_45 hM rfl rfl (Nat.le_of_ble_eq_true rfl) h0 (fun v1 j1 h1 => ?_)
  obtain ⟨e1, hI1⟩ := h1
  refine ok_ic_eq 385 dL_278 (by decide) (fun _ => kk j1 r hI1) (fun w => absurd e1.symm w)
theorem lc_seen (hb : b < x) (hL : 4 * q + 4 ≤ L) (h2048 : L ≤ 2048) (hI : lw_I (g_G l D kA x b L xs ad) x i r) (kk : ∀ (j : o_I) (s : o_R), lw_I (g_G l D kA x b L xs ad) x j s → OkC (g_G l D kA x b L xs ad) (mLaw nm) (l_C x b) 385 [some (.ref b), some (.ref x), some (.ref (x + 395)), some (.int (nI (4 * q)))] [] j s) : OkC (g_G l D kA x b L xs ad) (mLaw nm) (l_C x b) 283 [some (.ref b), some (.ref x), some (.ref (x + 395)), some (.int (nI (4 * q)))] [] i r := by
  have hO := (lw_O hI).1
  have hM := (lw_O hI).2
  refine ok_aload_n 1 dL_283 rfl rfl ?_
  refine ok_aload_n 0 dL_284 rfl rfl ?_
  refine ok_iload_n 3 dL_285 rfl rfl ?_
  refine ok_iconst 1 dL_286 (by decide) ?_
  refine ok_iadd dL_287 ?_
  rw [show nI (4 * q) + (1 : Int32) = nI (4 * q + 1) from nI_add (4 * q) 1]
  refine ok_sld dL_288 hb (show (4 * q + 1) < L by omega) h2048 ?_
  refine ok_aload_n 0 dL_289 rfl rfl ?_
  refine ok_iload_n 3 dL_290 rfl rfl ?_
  refine ok_iconst 2 dL_291 (by decide) ?_
  refine ok_iadd dL_292 ?_
  rw [show nI (4 * q) + (2 : Int32) = nI (4 * q + 2) from nI_add (4 * q) 2]
  refine ok_sld dL_293 hb (show (4 * q + 2) < L by omega) h2048 ?_
  refine ok_cVi (d := 9) (rest := []) l_room 0 [.int (xs (4 * q + 1)), .int (xs (4 * q + 2))] dL_294 kL_46 hO rfl rfl (Nat.le_of_ble_eq_true rfl) (L_seen hI) (fun v0 j0 h0 => ?_)
  refine ok_aload_n 2 dL_297 rfl rfl ?_
  refine ok_aload_n 0 dL_298 rfl rfl ?_
  refine ok_iload_n 3 dL_299 rfl rfl ?_
  refine ok_iconst 1 dL_300 (by decide) ?_
  refine ok_iadd dL_301 ?_
  rw [show nI (4 * q) + (1 : Int32) = nI (4 * q + 1) from nI_add (4 * q) 1]
  refine ok_sld dL_302 hb (show (4 * q + 1) < L by omega) h2048 ?_
  refine ok_aload_n 0 dL_303 rfl rfl ?_
  refine ok_iload_n 3 dL_304 rfl rfl ?_
  refine ok_iconst 2 dL_305 (by decide) ?_
  refine ok_iadd dL_306 ?_
  rw [show nI (4 * q) + (2 : Int32) = nI (4 * q + 2) from nI_add (4 * q) 2]
  refine ok_sld dL_307 hb (show (4 * q + 2) < L by omega) h2048 ?_
  refine ok_cVi (d := 9) (rest := [.int v0]) l_room 10 [.int (xs (4 * q + 1)), .int (xs (4 * q + 2))] dL_308 kL_49 hM rfl rfl (Nat.le_of_ble_eq_true rfl) h0 (fun v1 j1 h1 => ?_)
  obtain ⟨e1, hI1⟩ := h1
  refine ok_ic_eq 385 dL_311 (by decide) (fun _ => kk j1 r hI1) (fun w => absurd e1.symm w)
theorem lc_links (hb : b < x) (hL : 4 * q + 4 ≤ L) (h2048 : L ≤ 2048) (hI : lw_I (g_G l D kA x b L xs ad) x i r) (kk : ∀ (j : o_I) (s : o_R), lw_I (g_G l D kA x b L xs ad) x j s → OkC (g_G l D kA x b L xs ad) (mLaw nm) (l_C x b) 385 [some (.ref b), some (.ref x), some (.ref (x + 395)), some (.int (nI (4 * q)))] [] j s) : OkC (g_G l D kA x b L xs ad) (mLaw nm) (l_C x b) 316 [some (.ref b), some (.ref x), some (.ref (x + 395)), some (.int (nI (4 * q)))] [] i r := by
  have hO := (lw_O hI).1
  have hM := (lw_O hI).2
  refine ok_aload_n 1 dL_316 rfl rfl ?_
  refine ok_aload_n 0 dL_317 rfl rfl ?_
  refine ok_iload_n 3 dL_318 rfl rfl ?_
  refine ok_iconst 1 dL_319 (by decide) ?_
  refine ok_iadd dL_320 ?_
  rw [show nI (4 * q) + (1 : Int32) = nI (4 * q + 1) from nI_add (4 * q) 1]
  refine ok_sld dL_321 hb (show (4 * q + 1) < L by omega) h2048 ?_
  refine ok_aload_n 0 dL_322 rfl rfl ?_
  refine ok_iload_n 3 dL_323 rfl rfl ?_
  refine ok_iconst 2 dL_324 (by decide) ?_
  refine ok_iadd dL_325 ?_
  rw [show nI (4 * q) + (2 : Int32) = nI (4 * q + 2) from nI_add (4 * q) 2]
  refine ok_sld dL_326 hb (show (4 * q + 2) < L by omega) h2048 ?_
  refine ok_cVi (d := 9) (rest := []) l_room 0 [.int (xs (4 * q + 1)), .int (xs (4 * q + 2))] dL_327 kL_50 hO rfl rfl (Nat.le_of_ble_eq_true rfl) (L_links hI) (fun v0 j0 h0 => ?_)
  refine ok_aload_n 2 dL_330 rfl rfl ?_
  refine ok_aload_n 0 dL_331 rfl rfl ?_
  refine ok_iload_n 3 dL_332 rfl rfl ?_
  refine ok_iconst 1 dL_333 (by decide) ?_
  refine ok_iadd dL_334 ?_
  rw [show nI (4 * q) + (1 : Int32) = nI (4 * q + 1) from nI_add (4 * q) 1]
  refine ok_sld dL_335 hb (show (4 * q + 1) < L by omega) h2048 ?_
  refine ok_aload_n 0 dL_336 rfl rfl ?_
  refine ok_iload_n 3 dL_337 rfl rfl ?_
  refine ok_iconst 2 dL_338 (by decide) ?_
  refine ok_iadd dL_339 ?_
  rw [show nI (4 * q) + (2 : Int32) = nI (4 * q + 2) from nI_add (4 * q) 2]
  refine ok_sld dL_340 hb (show (4 * q + 2) < L by omega) h2048 ?_
  refine ok_cVi (d := 9) (rest := [.int v0]) l_room 10 [.int (xs (4 * q + 1)), .int (xs (4 * q + 2))] dL_341 kL_53 hM rfl rfl (Nat.le_of_ble_eq_true rfl) h0 (fun v1 j1 h1 => ?_)
  obtain ⟨e1, hI1⟩ := h1
  refine ok_ic_eq 385 dL_344 (by decide) (fun _ => kk j1 r hI1) (fun w => absurd e1.symm w)
theorem lc_length (hb : b < x) (hL : 4 * q + 4 ≤ L) (h2048 : L ≤ 2048) (hI : lw_I (g_G l D kA x b L xs ad) x i r) (kk : ∀ (j : o_I) (s : o_R), lw_I (g_G l D kA x b L xs ad) x j s → OkC (g_G l D kA x b L xs ad) (mLaw nm) (l_C x b) 385 [some (.ref b), some (.ref x), some (.ref (x + 395)), some (.int (nI (4 * q)))] [] j s) : OkC (g_G l D kA x b L xs ad) (mLaw nm) (l_C x b) 349 [some (.ref b), some (.ref x), some (.ref (x + 395)), some (.int (nI (4 * q)))] [] i r := by
  have hO := (lw_O hI).1
  have hM := (lw_O hI).2
  refine ok_aload_n 1 dL_349 rfl rfl ?_
  refine ok_cVi (d := 9) (rest := []) l_room 0 [] dL_350 kL_54 hO rfl rfl (Nat.le_of_ble_eq_true rfl) (L_length hI) (fun v0 j0 h0 => ?_)
  refine ok_aload_n 2 dL_353 rfl rfl ?_
  refine ok_cVi (d := 9) (rest := [.int v0]) l_room 10 [] dL_354 kL_57 hM rfl rfl (Nat.le_of_ble_eq_true rfl) h0 (fun v1 j1 h1 => ?_)
  obtain ⟨e1, hI1⟩ := h1
  refine ok_ic_eq 385 dL_357 (by decide) (fun _ => kk j1 r hI1) (fun w => absurd e1.symm w)
theorem lc_letter (hb : b < x) (hL : 4 * q + 4 ≤ L) (h2048 : L ≤ 2048) (hI : lw_I (g_G l D kA x b L xs ad) x i r) (kk : ∀ (j : o_I) (s : o_R), lw_I (g_G l D kA x b L xs ad) x j s → OkC (g_G l D kA x b L xs ad) (mLaw nm) (l_C x b) 385 [some (.ref b), some (.ref x), some (.ref (x + 395)), some (.int (nI (4 * q)))] [] j s) : OkC (g_G l D kA x b L xs ad) (mLaw nm) (l_C x b) 362 [some (.ref b), some (.ref x), some (.ref (x + 395)), some (.int (nI (4 * q)))] [] i r := by
  have hO := (lw_O hI).1
  have hM := (lw_O hI).2
  refine ok_aload_n 1 dL_362 rfl rfl ?_
  refine ok_aload_n 0 dL_363 rfl rfl ?_
  refine ok_iload_n 3 dL_364 rfl rfl ?_
  refine ok_iconst 1 dL_365 (by decide) ?_
  refine ok_iadd dL_366 ?_
  rw [show nI (4 * q) + (1 : Int32) = nI (4 * q + 1) from nI_add (4 * q) 1]
  refine ok_sld dL_367 hb (show (4 * q + 1) < L by omega) h2048 ?_
  refine ok_cVi (d := 9) (rest := []) l_room 0 [.int (xs (4 * q + 1))] dL_368 kL_58 hO rfl rfl (Nat.le_of_ble_eq_true rfl) (L_letter hI) (fun v0 j0 h0 => ?_)
  refine ok_aload_n 2 dL_371 rfl rfl ?_
  refine ok_aload_n 0 dL_372 rfl rfl ?_
  refine ok_iload_n 3 dL_373 rfl rfl ?_
  refine ok_iconst 1 dL_374 (by decide) ?_
  refine ok_iadd dL_375 ?_
  rw [show nI (4 * q) + (1 : Int32) = nI (4 * q + 1) from nI_add (4 * q) 1]
  refine ok_sld dL_376 hb (show (4 * q + 1) < L by omega) h2048 ?_
  refine ok_cVi (d := 9) (rest := [.int v0]) l_room 10 [.int (xs (4 * q + 1))] dL_377 kL_61 hM rfl rfl (Nat.le_of_ble_eq_true rfl) h0 (fun v1 j1 h1 => ?_)
  obtain ⟨e1, hI1⟩ := h1
  refine ok_ic_eq 385 dL_380 (by decide) (fun _ => kk j1 r hI1) (fun w => absurd e1.symm w)
end CASES

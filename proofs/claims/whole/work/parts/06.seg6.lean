set_option maxRecDepth 100000 in
set_option maxHeartbeats 4000000 in
theorem sX10_take_0 {G : o_G} {d : Nat} {P : o_P} {i : o_I} {r : o_R} (v0 : Nat)
    (h : o_O G v0 10 ∧ SpI G d mX10_newline [.ref v0, .int 0, .int 0] (fun x2 i2 => ∀ i3 : o_I, i3 = o_up i2 v0 4 (x2 - 1) → Ok G (d + 1) mX10_take P 14 [some (.ref v0), some (.int 0), none, none] [] i3 r) i r) :
    Ok G (d + 1) mX10_take P 0 [some (.ref v0), none, none, none] [] i r := by
  refine ok_aload_n 0 dX10_take_0 rfl rfl ?_
  refine ok_aload_n 0 dX10_take_1 rfl rfl ?_
  refine ok_iconst 0 dX10_take_2 (by decide) ?_
  refine ok_iconst 0 dX10_take_3 (by decide) ?_
  obtain ⟨c1, h⟩ := h
  refine ok_cVi (rest := [.ref v0]) o_rc 10 [.int 0, .int 0] dX10_take_4 k10_113 c1 rfl rfl (Nat.le_of_ble_eq_true rfl) h (fun x2 i2 h => ?_)
  refine ok_iconst 1 dX10_take_7 (by decide) ?_
  refine ok_isub dX10_take_8 ?_
  refine ok_puti 10 4 .int dX10_take_9 f10_116 rfl rfl (by decide +kernel) rfl rfl c1 ?_
  refine ok_nmi (fun i3 ei3 => ?_)
  replace h := h i3 ei3
  refine ok_iconst 0 dX10_take_12 (by decide) ?_
  refine ok_istore_n 1 dX10_take_13 rfl (by decide) [some (.ref v0), some (.int 0), none, none] rfl ?_
  exact h

set_option maxRecDepth 100000 in
set_option maxHeartbeats 4000000 in
theorem sX10_take_14 {G : o_G} {d : Nat} {P : o_P} {i : o_I} {r : o_R} (v0 : Nat) (v1 : Int32)
    (h : o_O G v0 10 ∧ (((i v0 4) ≤ v1 → ∀ i3 : o_I, i3 = o_up i v0 2 0 → ∀ x4 : Int32, x4 = ((i3 v0 4) + 2) → Ok G (d + 1) mX10_take P 54 [some (.ref v0), some (.int x4), none, none] [] i3 r) ∧ (¬ (i v0 4) ≤ v1 → SpI G d mX10_look [.ref v0, .int 0, .int (1 + v1)] (fun x5 i5 => o_Y G (r v0 5) 2 ∧ vp_in v1 (o_len G (r v0 5)) ∧ ∀ i8 : o_I, i8 = o_up i5 (r v0 5) v1.toNatClampNeg (vp_nar .char x5) → ∀ x9 : Int32, x9 = v1 + 1 → Ok G (d + 1) mX10_take P 14 [some (.ref v0), some (.int x9), none, none] [] i8 r) i r))) :
    Ok G (d + 1) mX10_take P 14 [some (.ref v0), some (.int v1), none, none] [] i r := by
  refine ok_iload_n 1 dX10_take_14 rfl rfl ?_
  refine ok_aload_n 0 dX10_take_15 rfl rfl ?_
  obtain ⟨c1, h⟩ := h
  refine ok_geti 10 4 dX10_take_16 f10_116 rfl c1 ?_
  refine ok_ic_ge 42 dX10_take_19 (by decide) (fun z2 => ?_) (fun z2 => ?_)
  · replace h := h.1 z2
    refine ok_aload_n 0 dX10_take_42 rfl rfl ?_
    refine ok_iconst 0 dX10_take_43 (by decide) ?_
    refine ok_puti 10 2 .int dX10_take_44 f10_120 rfl rfl (by decide +kernel) rfl rfl c1 ?_
    refine ok_nmi (fun i3 ei3 => ?_)
    replace h := h i3 ei3
    refine ok_aload_n 0 dX10_take_47 rfl rfl ?_
    refine ok_geti 10 4 dX10_take_48 f10_116 rfl c1 ?_
    refine ok_iconst 2 dX10_take_51 (by decide) ?_
    refine ok_iadd dX10_take_52 ?_
    refine ok_topi (fun x4 ex4 => ?_)
    replace h := h x4 ex4
    refine ok_istore_n 1 dX10_take_53 rfl (by decide) [some (.ref v0), some (.int x4), none, none] rfl ?_
    exact h
  · replace h := h.2 z2
    refine ok_aload_n 0 dX10_take_22 rfl rfl ?_
    refine ok_getr 10 5 dX10_take_23 f10_20 rfl c1 ?_
    refine ok_iload_n 1 dX10_take_26 rfl rfl ?_
    refine ok_aload_n 0 dX10_take_27 rfl rfl ?_
    refine ok_iconst 0 dX10_take_28 (by decide) ?_
    refine ok_iconst 1 dX10_take_29 (by decide) ?_
    refine ok_iload_n 1 dX10_take_30 rfl rfl ?_
    refine ok_iadd dX10_take_31 ?_
    refine ok_cVi (rest := [.int v1, .ref (r v0 5)]) o_rc 10 [.int 0, .int (1 + v1)] dX10_take_32 k10_93 c1 rfl rfl (Nat.le_of_ble_eq_true rfl) h (fun x5 i5 h => ?_)
    obtain ⟨c6, h⟩ := h
    obtain ⟨c7, h⟩ := h
    refine ok_cast dX10_take_35 c6 c7 ?_
    refine ok_nmi (fun i8 ei8 => ?_)
    replace h := h i8 ei8
    refine ok_eqi (v1 + 1) (fun x9 ex9 => ?_)
    replace h := h x9 ex9
    refine ok_iinc 1 x9 dX10_take_36 rfl (by decide) ex9 (by decide) [some (.ref v0), some (.int x9), none, none] rfl ?_
    refine ok_goto 14 dX10_take_39 (by decide) ?_
    exact h

set_option maxRecDepth 100000 in
set_option maxHeartbeats 4000000 in
theorem sX10_take_54 {G : o_G} {d : Nat} {P : o_P} {i : o_I} {r : o_R} (v0 : Nat) (v1 : Int32)
    (h : o_O G v0 10 ∧ o_Y G (r v0 1) 1 ∧ vp_in 0 (o_len G (r v0 1)) ∧ (((i (r v0 1) (0 : Int32).toNatClampNeg) ≤ v1 → ∀ i5 : o_I, i5 = o_up i v0 6 0 → Ok G (d + 1) mX10_take P 116 [some (.ref v0), some (.int 0), none, none] [] i5 r) ∧ (¬ (i (r v0 1) (0 : Int32).toNatClampNeg) ≤ v1 → SpI G d mX10_look [.ref v0, .int 0, .int v1] (fun x6 i6 => ((x6 = 10 → ∀ x8 : Int32, x8 = v1 + 1 → Ok G (d + 1) mX10_take P 54 [some (.ref v0), some (.int x8), none, none] [] i6 r) ∧ (¬ x6 = 10 → SpI G d mX10_look [.ref v0, .int 0, .int v1] (fun x9 i9 => SpI G d mX10_codeOf [.int x9] (fun x10 i10 => o_Y G (r v0 3) 1 ∧ vp_in (i6 v0 2) (o_len G (r v0 3)) ∧ ∀ i13 : o_I, i13 = o_up i10 (r v0 3) (i6 v0 2).toNatClampNeg x10 → ∀ i14 : o_I, i14 = o_up i13 v0 2 ((i13 v0 2) + 1) → ∀ x15 : Int32, x15 = v1 + 1 → Ok G (d + 1) mX10_take P 54 [some (.ref v0), some (.int x15), none, none] [] i14 r) i9 r) i6 r))) i r))) :
    Ok G (d + 1) mX10_take P 54 [some (.ref v0), some (.int v1), none, none] [] i r := by
  refine ok_iload_n 1 dX10_take_54 rfl rfl ?_
  refine ok_aload_n 0 dX10_take_55 rfl rfl ?_
  obtain ⟨c1, h⟩ := h
  refine ok_getr 10 1 dX10_take_56 f10_13 rfl c1 ?_
  refine ok_iconst 0 dX10_take_59 (by decide) ?_
  obtain ⟨c2, h⟩ := h
  obtain ⟨c3, h⟩ := h
  refine ok_iald dX10_take_60 c2 c3 ?_
  refine ok_ic_ge 109 dX10_take_61 (by decide) (fun z4 => ?_) (fun z4 => ?_)
  · replace h := h.1 z4
    refine ok_aload_n 0 dX10_take_109 rfl rfl ?_
    refine ok_iconst 0 dX10_take_110 (by decide) ?_
    refine ok_puti 10 6 .int dX10_take_111 f10_123 rfl rfl (by decide +kernel) rfl rfl c1 ?_
    refine ok_nmi (fun i5 ei5 => ?_)
    replace h := h i5 ei5
    refine ok_iconst 0 dX10_take_114 (by decide) ?_
    refine ok_istore_n 1 dX10_take_115 rfl (by decide) [some (.ref v0), some (.int 0), none, none] rfl ?_
    exact h
  · replace h := h.2 z4
    refine ok_aload_n 0 dX10_take_64 rfl rfl ?_
    refine ok_iconst 0 dX10_take_65 (by decide) ?_
    refine ok_iload_n 1 dX10_take_66 rfl rfl ?_
    refine ok_cVi (rest := []) o_rc 10 [.int 0, .int v1] dX10_take_67 k10_93 c1 rfl rfl (Nat.le_of_ble_eq_true rfl) h (fun x6 i6 h => ?_)
    refine ok_bipush 10 dX10_take_70 (by decide) ?_
    refine ok_ic_eq 103 dX10_take_72 (by decide) (fun z7 => ?_) (fun z7 => ?_)
    · replace h := h.1 z7
      refine ok_eqi (v1 + 1) (fun x8 ex8 => ?_)
      replace h := h x8 ex8
      refine ok_iinc 1 x8 dX10_take_103 rfl (by decide) ex8 (by decide) [some (.ref v0), some (.int x8), none, none] rfl ?_
      refine ok_goto 54 dX10_take_106 (by decide) ?_
      exact h
    · replace h := h.2 z7
      refine ok_aload_n 0 dX10_take_75 rfl rfl ?_
      refine ok_getr 10 3 dX10_take_76 f10_17 rfl c1 ?_
      refine ok_aload_n 0 dX10_take_79 rfl rfl ?_
      refine ok_geti 10 2 dX10_take_80 f10_120 rfl c1 ?_
      refine ok_aload_n 0 dX10_take_83 rfl rfl ?_
      refine ok_iconst 0 dX10_take_84 (by decide) ?_
      refine ok_iload_n 1 dX10_take_85 rfl rfl ?_
      refine ok_cVi (rest := [.int (i6 v0 2), .ref (r v0 3)]) o_rc 10 [.int 0, .int v1] dX10_take_86 k10_93 c1 rfl rfl (Nat.le_of_ble_eq_true rfl) h (fun x9 i9 h => ?_)
      refine ok_cSi (rest := [.int (i6 v0 2), .ref (r v0 3)]) o_rc [.int x9] dX10_take_89 k10_105 rfl rfl (Nat.le_of_ble_eq_true rfl) h (fun x10 i10 h => ?_)
      obtain ⟨c11, h⟩ := h
      obtain ⟨c12, h⟩ := h
      refine ok_iast dX10_take_92 c11 c12 ?_
      refine ok_nmi (fun i13 ei13 => ?_)
      replace h := h i13 ei13
      refine ok_aload_n 0 dX10_take_93 rfl rfl ?_
      refine ok_dup dX10_take_94 rfl ?_
      refine ok_geti 10 2 dX10_take_95 f10_120 rfl c1 ?_
      refine ok_iconst 1 dX10_take_98 (by decide) ?_
      refine ok_iadd dX10_take_99 ?_
      refine ok_puti 10 2 .int dX10_take_100 f10_120 rfl rfl (by decide +kernel) rfl rfl c1 ?_
      refine ok_nmi (fun i14 ei14 => ?_)
      replace h := h i14 ei14
      refine ok_eqi (v1 + 1) (fun x15 ex15 => ?_)
      replace h := h x15 ex15
      refine ok_iinc 1 x15 dX10_take_103 rfl (by decide) ex15 (by decide) [some (.ref v0), some (.int x15), none, none] rfl ?_
      refine ok_goto 54 dX10_take_106 (by decide) ?_
      exact h

set_option maxRecDepth 100000 in
set_option maxHeartbeats 4000000 in
theorem sX10_take_116 {G : o_G} {d : Nat} {P : o_P} {i : o_I} {r : o_R} (v0 : Nat) (v1 : Int32)
    (h : o_O G v0 10 ∧ o_Y G (r v0 1) 1 ∧ vp_in 1 (o_len G (r v0 1)) ∧ (((i (r v0 1) (1 : Int32).toNatClampNeg) ≤ v1 → P none i r) ∧ (¬ (i (r v0 1) (1 : Int32).toNatClampNeg) ≤ v1 → SpI G d mX10_newline [.ref v0, .int 1, .int v1] (fun x5 i5 => ∀ x6 : Int32, x6 = (x5 + 1) → SpI G d mX10_newline [.ref v0, .int 1, .int x6] (fun x7 i7 => ∀ x8 : Int32, x8 = (x7 - x6) → Ok G (d + 1) mX10_take P 146 [some (.ref v0), some (.int x6), some (.int x8), some (.int 0)] [] i7 r) i5 r) i r))) :
    Ok G (d + 1) mX10_take P 116 [some (.ref v0), some (.int v1), none, none] [] i r := by
  refine ok_iload_n 1 dX10_take_116 rfl rfl ?_
  refine ok_aload_n 0 dX10_take_117 rfl rfl ?_
  obtain ⟨c1, h⟩ := h
  refine ok_getr 10 1 dX10_take_118 f10_13 rfl c1 ?_
  refine ok_iconst 1 dX10_take_121 (by decide) ?_
  obtain ⟨c2, h⟩ := h
  obtain ⟨c3, h⟩ := h
  refine ok_iald dX10_take_122 c2 c3 ?_
  refine ok_ic_ge 242 dX10_take_123 (by decide) (fun z4 => ?_) (fun z4 => ?_)
  · replace h := h.1 z4
    exact ok_vret dX10_take_242 rfl h
  · replace h := h.2 z4
    refine ok_aload_n 0 dX10_take_126 rfl rfl ?_
    refine ok_iconst 1 dX10_take_127 (by decide) ?_
    refine ok_iload_n 1 dX10_take_128 rfl rfl ?_
    refine ok_cVi (rest := []) o_rc 10 [.int 1, .int v1] dX10_take_129 k10_113 c1 rfl rfl (Nat.le_of_ble_eq_true rfl) h (fun x5 i5 h => ?_)
    refine ok_iconst 1 dX10_take_132 (by decide) ?_
    refine ok_iadd dX10_take_133 ?_
    refine ok_topi (fun x6 ex6 => ?_)
    replace h := h x6 ex6
    refine ok_istore_n 1 dX10_take_134 rfl (by decide) [some (.ref v0), some (.int x6), none, none] rfl ?_
    refine ok_aload_n 0 dX10_take_135 rfl rfl ?_
    refine ok_iconst 1 dX10_take_136 (by decide) ?_
    refine ok_iload_n 1 dX10_take_137 rfl rfl ?_
    refine ok_cVi (rest := []) o_rc 10 [.int 1, .int x6] dX10_take_138 k10_113 c1 rfl rfl (Nat.le_of_ble_eq_true rfl) h (fun x7 i7 h => ?_)
    refine ok_iload_n 1 dX10_take_141 rfl rfl ?_
    refine ok_isub dX10_take_142 ?_
    refine ok_topi (fun x8 ex8 => ?_)
    replace h := h x8 ex8
    refine ok_istore_n 2 dX10_take_143 rfl (by decide) [some (.ref v0), some (.int x6), some (.int x8), none] rfl ?_
    refine ok_iconst 0 dX10_take_144 (by decide) ?_
    refine ok_istore_n 3 dX10_take_145 rfl (by decide) [some (.ref v0), some (.int x6), some (.int x8), some (.int 0)] rfl ?_
    exact h

set_option maxRecDepth 100000 in
set_option maxHeartbeats 4000000 in
theorem sX10_take_146 {G : o_G} {d : Nat} {P : o_P} {i : o_I} {r : o_R} (v0 : Nat) (v1 : Int32) (v2 : Int32) (v3 : Int32)
    (h : ((v2 ≤ v3 → o_O G v0 10 ∧ o_Y G (r v0 7) 1 ∧ vp_in (i v0 6) (o_len G (r v0 7)) ∧ ∀ i5 : o_I, i5 = o_up i (r v0 7) (i v0 6).toNatClampNeg v2 → ∀ i6 : o_I, i6 = o_up i5 v0 6 ((i5 v0 6) + 1) → ∀ x7 : Int32, x7 = (v1 + ((2 * v2) + 4)) → Ok G (d + 1) mX10_take P 116 [some (.ref v0), some (.int x7), none, none] [] i6 r) ∧ (¬ v2 ≤ v3 → o_O G v0 10 ∧ SpI G d mX10_look [.ref v0, .int 1, .int (v1 + v3)] (fun x9 i9 => SpI G d mX10_codeOf [.int x9] (fun x10 i10 => o_Y G (r v0 8) 1 ∧ vp_in ((16 * (i v0 6)) + v3) (o_len G (r v0 8)) ∧ ∀ i13 : o_I, i13 = o_up i10 (r v0 8) ((16 * (i v0 6)) + v3).toNatClampNeg x10 → SpI G d mX10_look [.ref v0, .int 1, .int (((v1 + v2) + 3) + v3)] (fun x14 i14 => o_Y G (r v0 9) 1 ∧ vp_in ((16 * (i13 v0 6)) + v3) (o_len G (r v0 9)) ∧ ∀ i17 : o_I, i17 = o_up i14 (r v0 9) ((16 * (i13 v0 6)) + v3).toNatClampNeg (x14 - 33) → ∀ x18 : Int32, x18 = v3 + 1 → Ok G (d + 1) mX10_take P 146 [some (.ref v0), some (.int v1), some (.int v2), some (.int x18)] [] i17 r) i13 r) i9 r) i r))) :
    Ok G (d + 1) mX10_take P 146 [some (.ref v0), some (.int v1), some (.int v2), some (.int v3)] [] i r := by
  refine ok_iload_n 3 dX10_take_146 rfl rfl ?_
  refine ok_iload_n 2 dX10_take_147 rfl rfl ?_
  refine ok_ic_ge 211 dX10_take_148 (by decide) (fun z1 => ?_) (fun z1 => ?_)
  · replace h := h.1 z1
    refine ok_aload_n 0 dX10_take_211 rfl rfl ?_
    obtain ⟨c2, h⟩ := h
    refine ok_getr 10 7 dX10_take_212 f10_23 rfl c2 ?_
    refine ok_aload_n 0 dX10_take_215 rfl rfl ?_
    refine ok_geti 10 6 dX10_take_216 f10_123 rfl c2 ?_
    refine ok_iload_n 2 dX10_take_219 rfl rfl ?_
    obtain ⟨c3, h⟩ := h
    obtain ⟨c4, h⟩ := h
    refine ok_iast dX10_take_220 c3 c4 ?_
    refine ok_nmi (fun i5 ei5 => ?_)
    replace h := h i5 ei5
    refine ok_aload_n 0 dX10_take_221 rfl rfl ?_
    refine ok_dup dX10_take_222 rfl ?_
    refine ok_geti 10 6 dX10_take_223 f10_123 rfl c2 ?_
    refine ok_iconst 1 dX10_take_226 (by decide) ?_
    refine ok_iadd dX10_take_227 ?_
    refine ok_puti 10 6 .int dX10_take_228 f10_123 rfl rfl (by decide +kernel) rfl rfl c2 ?_
    refine ok_nmi (fun i6 ei6 => ?_)
    replace h := h i6 ei6
    refine ok_iload_n 1 dX10_take_231 rfl rfl ?_
    refine ok_iconst 2 dX10_take_232 (by decide) ?_
    refine ok_iload_n 2 dX10_take_233 rfl rfl ?_
    refine ok_imul dX10_take_234 ?_
    refine ok_iconst 4 dX10_take_235 (by decide) ?_
    refine ok_iadd dX10_take_236 ?_
    refine ok_iadd dX10_take_237 ?_
    refine ok_topi (fun x7 ex7 => ?_)
    replace h := h x7 ex7
    refine ok_istore_n 1 dX10_take_238 rfl (by decide) [some (.ref v0), some (.int x7), some (.int v2), some (.int v3)] rfl ?_
    refine ok_goto 116 dX10_take_239 (by decide) ?_
    refine ok_wk [some (.ref v0), some (.int x7), none, none] ⟨rfl, rfl, trivial⟩ ?_
    exact h
  · replace h := h.2 z1
    refine ok_aload_n 0 dX10_take_151 rfl rfl ?_
    obtain ⟨c8, h⟩ := h
    refine ok_getr 10 8 dX10_take_152 f10_26 rfl c8 ?_
    refine ok_bipush 16 dX10_take_155 (by decide) ?_
    refine ok_aload_n 0 dX10_take_157 rfl rfl ?_
    refine ok_geti 10 6 dX10_take_158 f10_123 rfl c8 ?_
    refine ok_imul dX10_take_161 ?_
    refine ok_iload_n 3 dX10_take_162 rfl rfl ?_
    refine ok_iadd dX10_take_163 ?_
    refine ok_aload_n 0 dX10_take_164 rfl rfl ?_
    refine ok_iconst 1 dX10_take_165 (by decide) ?_
    refine ok_iload_n 1 dX10_take_166 rfl rfl ?_
    refine ok_iload_n 3 dX10_take_167 rfl rfl ?_
    refine ok_iadd dX10_take_168 ?_
    refine ok_cVi (rest := [.int ((16 * (i v0 6)) + v3), .ref (r v0 8)]) o_rc 10 [.int 1, .int (v1 + v3)] dX10_take_169 k10_93 c8 rfl rfl (Nat.le_of_ble_eq_true rfl) h (fun x9 i9 h => ?_)
    refine ok_cSi (rest := [.int ((16 * (i v0 6)) + v3), .ref (r v0 8)]) o_rc [.int x9] dX10_take_172 k10_105 rfl rfl (Nat.le_of_ble_eq_true rfl) h (fun x10 i10 h => ?_)
    obtain ⟨c11, h⟩ := h
    obtain ⟨c12, h⟩ := h
    refine ok_iast dX10_take_175 c11 c12 ?_
    refine ok_nmi (fun i13 ei13 => ?_)
    replace h := h i13 ei13
    refine ok_aload_n 0 dX10_take_176 rfl rfl ?_
    refine ok_getr 10 9 dX10_take_177 f10_29 rfl c8 ?_
    refine ok_bipush 16 dX10_take_180 (by decide) ?_
    refine ok_aload_n 0 dX10_take_182 rfl rfl ?_
    refine ok_geti 10 6 dX10_take_183 f10_123 rfl c8 ?_
    refine ok_imul dX10_take_186 ?_
    refine ok_iload_n 3 dX10_take_187 rfl rfl ?_
    refine ok_iadd dX10_take_188 ?_
    refine ok_aload_n 0 dX10_take_189 rfl rfl ?_
    refine ok_iconst 1 dX10_take_190 (by decide) ?_
    refine ok_iload_n 1 dX10_take_191 rfl rfl ?_
    refine ok_iload_n 2 dX10_take_192 rfl rfl ?_
    refine ok_iadd dX10_take_193 ?_
    refine ok_iconst 3 dX10_take_194 (by decide) ?_
    refine ok_iadd dX10_take_195 ?_
    refine ok_iload_n 3 dX10_take_196 rfl rfl ?_
    refine ok_iadd dX10_take_197 ?_
    refine ok_cVi (rest := [.int ((16 * (i13 v0 6)) + v3), .ref (r v0 9)]) o_rc 10 [.int 1, .int (((v1 + v2) + 3) + v3)] dX10_take_198 k10_93 c8 rfl rfl (Nat.le_of_ble_eq_true rfl) h (fun x14 i14 h => ?_)
    refine ok_bipush 33 dX10_take_201 (by decide) ?_
    refine ok_isub dX10_take_203 ?_
    obtain ⟨c15, h⟩ := h
    obtain ⟨c16, h⟩ := h
    refine ok_iast dX10_take_204 c15 c16 ?_
    refine ok_nmi (fun i17 ei17 => ?_)
    replace h := h i17 ei17
    refine ok_eqi (v3 + 1) (fun x18 ex18 => ?_)
    replace h := h x18 ex18
    refine ok_iinc 1 x18 dX10_take_205 rfl (by decide) ex18 (by decide) [some (.ref v0), some (.int v1), some (.int v2), some (.int x18)] rfl ?_
    refine ok_goto 146 dX10_take_208 (by decide) ?_
    exact h

set_option maxRecDepth 100000 in
set_option maxHeartbeats 4000000 in
theorem sX10_turn_0 {G : o_G} {d : Nat} {P : o_P} {i : o_I} {r : o_R} (v0 : Nat) (v1 : Int32) (v2 : Int32)
    (h : o_O G v0 10 ∧ o_Y G (r v0 7) 1 ∧ vp_in v1 (o_len G (r v0 7)) ∧ ∀ x4 : Int32, x4 = (i (r v0 7) v1.toNatClampNeg) → Ok G (d + 1) mX10_turn P 10 [some (.ref v0), some (.int v1), some (.int v2), some (.int x4), some (.int 0), none] [] i r) :
    Ok G (d + 1) mX10_turn P 0 [some (.ref v0), some (.int v1), some (.int v2), none, none, none] [] i r := by
  refine ok_aload_n 0 dX10_turn_0 rfl rfl ?_
  obtain ⟨c1, h⟩ := h
  refine ok_getr 10 7 dX10_turn_1 f10_23 rfl c1 ?_
  refine ok_iload_n 1 dX10_turn_4 rfl rfl ?_
  obtain ⟨c2, h⟩ := h
  obtain ⟨c3, h⟩ := h
  refine ok_iald dX10_turn_5 c2 c3 ?_
  refine ok_topi (fun x4 ex4 => ?_)
  replace h := h x4 ex4
  refine ok_istore_n 3 dX10_turn_6 rfl (by decide) [some (.ref v0), some (.int v1), some (.int v2), some (.int x4), none, none] rfl ?_
  refine ok_iconst 0 dX10_turn_7 (by decide) ?_
  refine ok_istore dX10_turn_8 (by decide) [some (.ref v0), some (.int v1), some (.int v2), some (.int x4), some (.int 0), none] rfl ?_
  exact h

set_option maxRecDepth 100000 in
set_option maxHeartbeats 4000000 in
theorem sX10_turn_10 {G : o_G} {d : Nat} {P : o_P} {i : o_I} {r : o_R} (v0 : Nat) (v1 : Int32) (v2 : Int32) (v3 : Int32) (v4 : Int32)
    (h : ((v3 ≤ v4 → P none i r) ∧ (¬ v3 ≤ v4 → (∀ x3 : Int32, x3 = (if v2 = 1 then ((v3 - 1) - v4) else v4) → ∀ x4 : Int32, x4 = ((16 * v1) + x3) → o_O G v0 10 ∧ ((¬ v2 = 1 → o_Y G (r v0 8) 1 ∧ vp_in x4 (o_len G (r v0 8)) ∧ True) ∧ (v2 = 1 → o_Y G (r v0 8) 1 ∧ vp_in x4 (o_len G (r v0 8)) ∧ True)) ∧ (∀ x12 : Int32, x12 = (if v2 = 1 then (if 4 ≤ (i (r v0 8) x4.toNatClampNeg) then (i (r v0 8) x4.toNatClampNeg) else (3 - (i (r v0 8) x4.toNatClampNeg))) else (i (r v0 8) x4.toNatClampNeg)) → o_Y G (r v0 17) 1 ∧ vp_in v4 (o_len G (r v0 17)) ∧ ∀ i15 : o_I, i15 = o_up i (r v0 17) v4.toNatClampNeg x12 → o_Y G (r v0 9) 1 ∧ vp_in x4 (o_len G (r v0 9)) ∧ o_Y G (r v0 18) 1 ∧ vp_in v4 (o_len G (r v0 18)) ∧ ∀ i20 : o_I, i20 = o_up i15 (r v0 18) v4.toNatClampNeg (i15 (r v0 9) x4.toNatClampNeg) → ∀ x21 : Int32, x21 = v4 + 1 → Ok G (d + 1) mX10_turn P 10 [some (.ref v0), some (.int v1), some (.int v2), some (.int v3), some (.int x21), none] [] i20 r))))) :
    Ok G (d + 1) mX10_turn P 10 [some (.ref v0), some (.int v1), some (.int v2), some (.int v3), some (.int v4), none] [] i r := by
  refine ok_iload dX10_turn_10 rfl ?_
  refine ok_iload_n 3 dX10_turn_12 rfl rfl ?_
  refine ok_ic_ge 101 dX10_turn_13 (by decide) (fun z1 => ?_) (fun z1 => ?_)
  · replace h := h.1 z1
    exact ok_vret dX10_turn_101 rfl h
  · replace h := h.2 z1
    refine ok_bipush 16 dX10_turn_16 (by decide) ?_
    refine ok_iload_n 1 dX10_turn_18 rfl rfl ?_
    refine ok_imul dX10_turn_19 ?_
    refine ok_iload_n 2 dX10_turn_20 rfl rfl ?_
    refine ok_iconst 1 dX10_turn_21 (by decide) ?_
    have k23 : ∀ x3 : Int32, x3 = (if v2 = 1 then ((v3 - 1) - v4) else v4) → Ok G (d + 1) mX10_turn P 36 [some (.ref v0), some (.int v1), some (.int v2), some (.int v3), some (.int v4), none] [.int x3, .int (16 * v1)] i r := by
      intro x3 ex3
      replace h := h x3 ex3
      refine ok_iadd dX10_turn_36 ?_
      refine ok_topi (fun x4 ex4 => ?_)
      replace h := h x4 ex4
      refine ok_istore dX10_turn_37 (by decide) [some (.ref v0), some (.int v1), some (.int v2), some (.int v3), some (.int v4), some (.int x4)] rfl ?_
      refine ok_aload_n 0 dX10_turn_39 rfl rfl ?_
      obtain ⟨c5, h⟩ := h
      refine ok_getr 10 17 dX10_turn_40 f10_53 rfl c5 ?_
      refine ok_iload dX10_turn_43 rfl ?_
      refine ok_iload_n 2 dX10_turn_45 rfl rfl ?_
      refine ok_iconst 1 dX10_turn_46 (by decide) ?_
      obtain ⟨hs, h⟩ := h
      have k22 : ∀ x12 : Int32, x12 = (if v2 = 1 then (if 4 ≤ (i (r v0 8) x4.toNatClampNeg) then (i (r v0 8) x4.toNatClampNeg) else (3 - (i (r v0 8) x4.toNatClampNeg))) else (i (r v0 8) x4.toNatClampNeg)) → Ok G (d + 1) mX10_turn P 80 [some (.ref v0), some (.int v1), some (.int v2), some (.int v3), some (.int v4), some (.int x4)] [.int x12, .int v4, .ref (r v0 17)] i r := by
        intro x12 ex12
        replace h := h x12 ex12
        obtain ⟨c13, h⟩ := h
        obtain ⟨c14, h⟩ := h
        refine ok_iast dX10_turn_80 c13 c14 ?_
        refine ok_nmi (fun i15 ei15 => ?_)
        replace h := h i15 ei15
        refine ok_aload_n 0 dX10_turn_81 rfl rfl ?_
        refine ok_getr 10 18 dX10_turn_82 f10_56 rfl c5 ?_
        refine ok_iload dX10_turn_85 rfl ?_
        refine ok_aload_n 0 dX10_turn_87 rfl rfl ?_
        refine ok_getr 10 9 dX10_turn_88 f10_29 rfl c5 ?_
        refine ok_iload dX10_turn_91 rfl ?_
        obtain ⟨c16, h⟩ := h
        obtain ⟨c17, h⟩ := h
        refine ok_iald dX10_turn_93 c16 c17 ?_
        obtain ⟨c18, h⟩ := h
        obtain ⟨c19, h⟩ := h
        refine ok_iast dX10_turn_94 c18 c19 ?_
        refine ok_nmi (fun i20 ei20 => ?_)
        replace h := h i20 ei20
        refine ok_eqi (v4 + 1) (fun x21 ex21 => ?_)
        replace h := h x21 ex21
        refine ok_iinc 1 x21 dX10_turn_95 rfl (by decide) ex21 (by decide) [some (.ref v0), some (.int v1), some (.int v2), some (.int v3), some (.int x21), some (.int x4)] rfl ?_
        refine ok_goto 10 dX10_turn_98 (by decide) ?_
        refine ok_wk [some (.ref v0), some (.int v1), some (.int v2), some (.int v3), some (.int x21), none] ⟨rfl, rfl, rfl, rfl, rfl, trivial⟩ ?_
        exact h
      clear h
      refine ok_ic_ne 73 dX10_turn_47 (by decide) (fun z6 => ?_) (fun z6 => ?_)
      · replace hs := hs.1 z6
        refine ok_aload_n 0 dX10_turn_73 rfl rfl ?_
        refine ok_getr 10 8 dX10_turn_74 f10_26 rfl c5 ?_
        refine ok_iload dX10_turn_77 rfl ?_
        obtain ⟨c7, hs⟩  := hs
        obtain ⟨c8, hs⟩  := hs
        refine ok_iald dX10_turn_79 c7 c8 ?_
        exact k22 ((i (r v0 8) x4.toNatClampNeg)) (by simp only [if_neg z6])
      · replace hs := hs.2 z6
        refine ok_aload_n 0 dX10_turn_50 rfl rfl ?_
        refine ok_getr 10 8 dX10_turn_51 f10_26 rfl c5 ?_
        refine ok_iload dX10_turn_54 rfl ?_
        obtain ⟨c9, hs⟩  := hs
        obtain ⟨c10, hs⟩  := hs
        refine ok_iald dX10_turn_56 c9 c10 ?_
        refine ok_iconst 4 dX10_turn_57 (by decide) ?_
        refine ok_ic_ge 73 dX10_turn_58 (by decide) (fun z11 => ?_) (fun z11 => ?_)
        · refine ok_aload_n 0 dX10_turn_73 rfl rfl ?_
          refine ok_getr 10 8 dX10_turn_74 f10_26 rfl c5 ?_
          refine ok_iload dX10_turn_77 rfl ?_
          refine ok_iald dX10_turn_79 c9 c10 ?_
          exact k22 ((i (r v0 8) x4.toNatClampNeg)) (by simp only [if_pos z6, if_pos z11])
        · refine ok_iconst 3 dX10_turn_61 (by decide) ?_
          refine ok_aload_n 0 dX10_turn_62 rfl rfl ?_
          refine ok_getr 10 8 dX10_turn_63 f10_26 rfl c5 ?_
          refine ok_iload dX10_turn_66 rfl ?_
          refine ok_iald dX10_turn_68 c9 c10 ?_
          refine ok_isub dX10_turn_69 ?_
          refine ok_goto 80 dX10_turn_70 (by decide) ?_
          exact k22 ((3 - (i (r v0 8) x4.toNatClampNeg))) (by simp only [if_pos z6, if_neg z11])
    clear h
    refine ok_ic_ne 34 dX10_turn_22 (by decide) (fun z2 => ?_) (fun z2 => ?_)
    · refine ok_iload dX10_turn_34 rfl ?_
      exact k23 (v4) (by simp only [if_neg z2])
    · refine ok_iload_n 3 dX10_turn_25 rfl rfl ?_
      refine ok_iconst 1 dX10_turn_26 (by decide) ?_
      refine ok_isub dX10_turn_27 ?_
      refine ok_iload dX10_turn_28 rfl ?_
      refine ok_isub dX10_turn_30 ?_
      refine ok_goto 36 dX10_turn_31 (by decide) ?_
      exact k23 (((v3 - 1) - v4)) (by simp only [if_pos z2])

set_option maxRecDepth 100000 in
set_option maxHeartbeats 4000000 in
theorem sX10_visible_0 {G : o_G} {d : Nat} {P : o_P} {i : o_I} {r : o_R} (v0 : Int32)
    (h : (∀ x3 : Int32, x3 = (if v0 < 33 then 0 else (if 126 < v0 then 0 else 1)) → (x3 = 0 ∨ x3 = 1) ∧ P (some (.int x3)) i r)) :
    Ok G (d + 1) mX10_visible P 0 [some (.int v0)] [] i r := by
  refine ok_iload_n 0 dX10_visible_0 rfl rfl ?_
  refine ok_bipush 33 dX10_visible_1 (by decide) ?_
  have k5 : ∀ x3 : Int32, x3 = (if v0 < 33 then 0 else (if 126 < v0 then 0 else 1)) → Ok G (d + 1) mX10_visible P 17 [none] [.int x3] i r := by
    intro x3 ex3
    replace h := h x3 ex3
    obtain ⟨c4, h⟩ := h
    exact ok_iret .boolean dX10_visible_17 rfl (o_bool c4).1 h
  clear h
  refine ok_ic_lt 16 dX10_visible_3 (by decide) (fun z1 => ?_) (fun z1 => ?_)
  · refine ok_iconst 0 dX10_visible_16 (by decide) ?_
    refine ok_wk [none] trivial ?_
    exact k5 (0) (by simp only [if_pos z1])
  · refine ok_iload_n 0 dX10_visible_6 rfl rfl ?_
    refine ok_bipush 126 dX10_visible_7 (by decide) ?_
    refine ok_ic_gt 16 dX10_visible_9 (by decide) (fun z2 => ?_) (fun z2 => ?_)
    · refine ok_iconst 0 dX10_visible_16 (by decide) ?_
      refine ok_wk [none] trivial ?_
      exact k5 (0) (by simp only [if_neg z1, if_pos z2])
    · refine ok_iconst 1 dX10_visible_12 (by decide) ?_
      refine ok_goto 17 dX10_visible_13 (by decide) ?_
      refine ok_wk [none] trivial ?_
      exact k5 (1) (by simp only [if_neg z1, if_neg z2])

set_option maxRecDepth 100000 in
set_option maxHeartbeats 4000000 in
theorem sX10_watch_0 {G : o_G} {d : Nat} {P : o_P} {i : o_I} {r : o_R} (v0 : Nat) (v1 : Int32)
    (h : o_O G v0 10 ∧ o_Y G (r v0 11) 1 ∧ vp_in v1 (o_len G (r v0 11)) ∧ ∀ x4 : Int32, x4 = (i (r v0 11) v1.toNatClampNeg) → Ok G (d + 1) mX10_watch P 30 [some (.ref v0), some (.int v1), some (.int 0), some (.int x4), some (.int (-1)), some (.int 0), some (.int 0), some (.int 0), some (.int 0), some (.int 1), some (.int 0), none, none, none] [] i r) :
    Ok G (d + 1) mX10_watch P 0 [some (.ref v0), some (.int v1), none, none, none, none, none, none, none, none, none, none, none, none] [] i r := by
  refine ok_iconst 0 dX10_watch_0 (by decide) ?_
  refine ok_istore_n 2 dX10_watch_1 rfl (by decide) [some (.ref v0), some (.int v1), some (.int 0), none, none, none, none, none, none, none, none, none, none, none] rfl ?_
  refine ok_aload_n 0 dX10_watch_2 rfl rfl ?_
  obtain ⟨c1, h⟩ := h
  refine ok_getr 10 11 dX10_watch_3 f10_35 rfl c1 ?_
  refine ok_iload_n 1 dX10_watch_6 rfl rfl ?_
  obtain ⟨c2, h⟩ := h
  obtain ⟨c3, h⟩ := h
  refine ok_iald dX10_watch_7 c2 c3 ?_
  refine ok_topi (fun x4 ex4 => ?_)
  replace h := h x4 ex4
  refine ok_istore_n 3 dX10_watch_8 rfl (by decide) [some (.ref v0), some (.int v1), some (.int 0), some (.int x4), none, none, none, none, none, none, none, none, none, none] rfl ?_
  refine ok_iconst (-1) dX10_watch_9 (by decide) ?_
  refine ok_istore dX10_watch_10 (by decide) [some (.ref v0), some (.int v1), some (.int 0), some (.int x4), some (.int (-1)), none, none, none, none, none, none, none, none, none] rfl ?_
  refine ok_iconst 0 dX10_watch_12 (by decide) ?_
  refine ok_istore dX10_watch_13 (by decide) [some (.ref v0), some (.int v1), some (.int 0), some (.int x4), some (.int (-1)), some (.int 0), none, none, none, none, none, none, none, none] rfl ?_
  refine ok_iconst 0 dX10_watch_15 (by decide) ?_
  refine ok_istore dX10_watch_16 (by decide) [some (.ref v0), some (.int v1), some (.int 0), some (.int x4), some (.int (-1)), some (.int 0), some (.int 0), none, none, none, none, none, none, none] rfl ?_
  refine ok_iconst 0 dX10_watch_18 (by decide) ?_
  refine ok_istore dX10_watch_19 (by decide) [some (.ref v0), some (.int v1), some (.int 0), some (.int x4), some (.int (-1)), some (.int 0), some (.int 0), some (.int 0), none, none, none, none, none, none] rfl ?_
  refine ok_iconst 0 dX10_watch_21 (by decide) ?_
  refine ok_istore dX10_watch_22 (by decide) [some (.ref v0), some (.int v1), some (.int 0), some (.int x4), some (.int (-1)), some (.int 0), some (.int 0), some (.int 0), some (.int 0), none, none, none, none, none] rfl ?_
  refine ok_iconst 1 dX10_watch_24 (by decide) ?_
  refine ok_istore dX10_watch_25 (by decide) [some (.ref v0), some (.int v1), some (.int 0), some (.int x4), some (.int (-1)), some (.int 0), some (.int 0), some (.int 0), some (.int 0), some (.int 1), none, none, none, none] rfl ?_
  refine ok_iconst 0 dX10_watch_27 (by decide) ?_
  refine ok_istore dX10_watch_28 (by decide) [some (.ref v0), some (.int v1), some (.int 0), some (.int x4), some (.int (-1)), some (.int 0), some (.int 0), some (.int 0), some (.int 0), some (.int 1), some (.int 0), none, none, none] rfl ?_
  exact h

set_option maxRecDepth 100000 in
set_option maxHeartbeats 4000000 in
theorem sX10_watch_30 {G : o_G} {d : Nat} {P : o_P} {i : o_I} {r : o_R} (v0 : Nat) (v1 : Int32) (v2 : Int32) (v3 : Int32) (v4 : Int32) (v5 : Int32) (v6 : Int32) (v7 : Int32) (v8 : Int32) (v9 : Int32) (v10 : Int32)
    (h : o_O G v0 10 ∧ o_Y G (r v0 15) 1 ∧ vp_in v1 (o_len G (r v0 15)) ∧ (((i (r v0 15) v1.toNatClampNeg) ≤ v10 → P none i r) ∧ (¬ (i (r v0 15) v1.toNatClampNeg) ≤ v10 → o_Y G (r v0 16) 1 ∧ vp_in ((40 * v1) + v10) (o_len G (r v0 16)) ∧ ∀ x7 : Int32, x7 = (i (r v0 16) ((40 * v1) + v10).toNatClampNeg) → ((¬ x7 = 1 → ((¬ x7 = 2 → ((v9 = 0 → o_Y G (r v0 17) 1 ∧ vp_in v2 (o_len G (r v0 17)) ∧ True) ∧ (¬ v9 = 0 → o_Y G (r v0 17) 1 ∧ vp_in v2 (o_len G (r v0 17)) ∧ True))) ∧ (x7 = 2 → True)) ∧ (∀ x18 : Int32, x18 = (if x7 = 2 then (v6 + 1) else (if v9 = 0 then v6 else (if 4 ≤ (i (r v0 17) v2.toNatClampNeg) then v6 else v6))) → ∀ x19 : Int32, x19 = (if x7 = 2 then v7 else (if v9 = 0 then (v7 + 1) else (if 4 ≤ (i (r v0 17) v2.toNatClampNeg) then (v7 + 1) else (v7 + 1)))) → ∀ x20 : Int32, x20 = (if x7 = 2 then v8 else (if v9 = 0 then ((4 * v8) + ((i (r v0 17) v2.toNatClampNeg) - (i (r v0 17) v2.toNatClampNeg) / 4 * 4)) else (if 4 ≤ (i (r v0 17) v2.toNatClampNeg) then ((4 * v8) + ((i (r v0 17) v2.toNatClampNeg) - (i (r v0 17) v2.toNatClampNeg) / 4 * 4)) else ((4 * v8) + ((i (r v0 17) v2.toNatClampNeg) - (i (r v0 17) v2.toNatClampNeg) / 4 * 4))))) → ∀ x21 : Int32, x21 = (if x7 = 2 then v9 else (if v9 = 0 then 0 else (if 4 ≤ (i (r v0 17) v2.toNatClampNeg) then 0 else 1))) → (∀ x23 : Int32, x23 = (if x7 = 2 then v2 else (v2 + 1)) → (∀ x25 : Int32, x25 = (if x7 = 3 then v3 else (v3 + 1)) → ∀ x26 : Int32, x26 = v10 + 1 → Ok G (d + 1) mX10_watch P 30 [some (.ref v0), some (.int v1), some (.int x23), some (.int x25), some (.int v4), some (.int v5), some (.int x18), some (.int x19), some (.int x20), some (.int x21), some (.int x26), none, none, none] [] i r)))) ∧ (x7 = 1 → o_Y G (r v0 18) 1 ∧ vp_in v2 (o_len G (r v0 18)) ∧ ∀ x32 : Int32, x32 = (i (r v0 18) v2.toNatClampNeg) → o_Y G (r v0 17) 1 ∧ vp_in v2 (o_len G (r v0 17)) ∧ ((4 ≤ (i (r v0 17) v2.toNatClampNeg) → Ok G (d + 1) mX10_watch P 92 [some (.ref v0), some (.int v1), some (.int v2), some (.int v3), some (.int v4), some (.int v5), some (.int v6), some (.int v7), some (.int v8), some (.int v9), some (.int v10), some (.int x7), some (.int x32), none] [] i r) ∧ (¬ 4 ≤ (i (r v0 17) v2.toNatClampNeg) → SpV G d mX10_seeBase [.ref v0, .int v3, .int (i (r v0 17) v2.toNatClampNeg), .int x32] (fun i36 => Ok G (d + 1) mX10_watch P 92 [some (.ref v0), some (.int v1), some (.int v2), some (.int v3), some (.int v4), some (.int v5), some (.int v6), some (.int v7), some (.int v8), some (.int v9), some (.int v10), some (.int x7), some (.int x32), none] [] i36 r) i r))))))) :
    Ok G (d + 1) mX10_watch P 30 [some (.ref v0), some (.int v1), some (.int v2), some (.int v3), some (.int v4), some (.int v5), some (.int v6), some (.int v7), some (.int v8), some (.int v9), some (.int v10), none, none, none] [] i r := by
  refine ok_iload dX10_watch_30 rfl ?_
  refine ok_aload_n 0 dX10_watch_32 rfl rfl ?_
  obtain ⟨c1, h⟩ := h
  refine ok_getr 10 15 dX10_watch_33 f10_47 rfl c1 ?_
  refine ok_iload_n 1 dX10_watch_36 rfl rfl ?_
  obtain ⟨c2, h⟩ := h
  obtain ⟨c3, h⟩ := h
  refine ok_iald dX10_watch_37 c2 c3 ?_
  refine ok_ic_ge 300 dX10_watch_38 (by decide) (fun z4 => ?_) (fun z4 => ?_)
  · replace h := h.1 z4
    exact ok_vret dX10_watch_300 rfl h
  · replace h := h.2 z4
    refine ok_aload_n 0 dX10_watch_41 rfl rfl ?_
    refine ok_getr 10 16 dX10_watch_42 f10_50 rfl c1 ?_
    refine ok_bipush 40 dX10_watch_45 (by decide) ?_
    refine ok_iload_n 1 dX10_watch_47 rfl rfl ?_
    refine ok_imul dX10_watch_48 ?_
    refine ok_iload dX10_watch_49 rfl ?_
    refine ok_iadd dX10_watch_51 ?_
    obtain ⟨c5, h⟩ := h
    obtain ⟨c6, h⟩ := h
    refine ok_iald dX10_watch_52 c5 c6 ?_
    refine ok_topi (fun x7 ex7 => ?_)
    replace h := h x7 ex7
    refine ok_istore dX10_watch_53 (by decide) [some (.ref v0), some (.int v1), some (.int v2), some (.int v3), some (.int v4), some (.int v5), some (.int v6), some (.int v7), some (.int v8), some (.int v9), some (.int v10), some (.int x7), none, none] rfl ?_
    refine ok_iload dX10_watch_55 rfl ?_
    refine ok_iconst 1 dX10_watch_57 (by decide) ?_
    refine ok_ic_ne 214 dX10_watch_58 (by decide) (fun z8 => ?_) (fun z8 => ?_)
    · replace h := h.1 z8
      refine ok_iload dX10_watch_214 rfl ?_
      refine ok_iconst 2 dX10_watch_216 (by decide) ?_
      obtain ⟨hs, h⟩ := h
      have k29 : ∀ x18 : Int32, x18 = (if x7 = 2 then (v6 + 1) else (if v9 = 0 then v6 else (if 4 ≤ (i (r v0 17) v2.toNatClampNeg) then v6 else v6))) → ∀ x19 : Int32, x19 = (if x7 = 2 then v7 else (if v9 = 0 then (v7 + 1) else (if 4 ≤ (i (r v0 17) v2.toNatClampNeg) then (v7 + 1) else (v7 + 1)))) → ∀ x20 : Int32, x20 = (if x7 = 2 then v8 else (if v9 = 0 then ((4 * v8) + ((i (r v0 17) v2.toNatClampNeg) - (i (r v0 17) v2.toNatClampNeg) / 4 * 4)) else (if 4 ≤ (i (r v0 17) v2.toNatClampNeg) then ((4 * v8) + ((i (r v0 17) v2.toNatClampNeg) - (i (r v0 17) v2.toNatClampNeg) / 4 * 4)) else ((4 * v8) + ((i (r v0 17) v2.toNatClampNeg) - (i (r v0 17) v2.toNatClampNeg) / 4 * 4))))) → ∀ x21 : Int32, x21 = (if x7 = 2 then v9 else (if v9 = 0 then 0 else (if 4 ≤ (i (r v0 17) v2.toNatClampNeg) then 0 else 1))) → Ok G (d + 1) mX10_watch P 266 [some (.ref v0), some (.int v1), some (.int v2), some (.int v3), some (.int v4), some (.int v5), some (.int x18), some (.int x19), some (.int x20), some (.int x21), some (.int v10), some (.int x7), none, none] [] i r := by
        intro x18 ex18
        replace h := h x18 ex18
        intro x19 ex19
        replace h := h x19 ex19
        intro x20 ex20
        replace h := h x20 ex20
        intro x21 ex21
        replace h := h x21 ex21
        refine ok_iload dX10_watch_266 rfl ?_
        refine ok_iconst 2 dX10_watch_268 (by decide) ?_
        have k28 : ∀ x23 : Int32, x23 = (if x7 = 2 then v2 else (v2 + 1)) → Ok G (d + 1) mX10_watch P 279 [some (.ref v0), some (.int v1), none, some (.int v3), some (.int v4), some (.int v5), some (.int x18), some (.int x19), some (.int x20), some (.int x21), some (.int v10), some (.int x7), none, none] [.int x23] i r := by
          intro x23 ex23
          replace h := h x23 ex23
          refine ok_istore_n 2 dX10_watch_279 rfl (by decide) [some (.ref v0), some (.int v1), some (.int x23), some (.int v3), some (.int v4), some (.int v5), some (.int x18), some (.int x19), some (.int x20), some (.int x21), some (.int v10), some (.int x7), none, none] rfl ?_
          refine ok_iload dX10_watch_280 rfl ?_
          refine ok_iconst 3 dX10_watch_282 (by decide) ?_
          have k27 : ∀ x25 : Int32, x25 = (if x7 = 3 then v3 else (v3 + 1)) → Ok G (d + 1) mX10_watch P 293 [some (.ref v0), some (.int v1), some (.int x23), none, some (.int v4), some (.int v5), some (.int x18), some (.int x19), some (.int x20), some (.int x21), some (.int v10), none, none, none] [.int x25] i r := by
            intro x25 ex25
            replace h := h x25 ex25
            refine ok_istore_n 3 dX10_watch_293 rfl (by decide) [some (.ref v0), some (.int v1), some (.int x23), some (.int x25), some (.int v4), some (.int v5), some (.int x18), some (.int x19), some (.int x20), some (.int x21), some (.int v10), none, none, none] rfl ?_
            refine ok_eqi (v10 + 1) (fun x26 ex26 => ?_)
            replace h := h x26 ex26
            refine ok_iinc 1 x26 dX10_watch_294 rfl (by decide) ex26 (by decide) [some (.ref v0), some (.int v1), some (.int x23), some (.int x25), some (.int v4), some (.int v5), some (.int x18), some (.int x19), some (.int x20), some (.int x21), some (.int x26), none, none, none] rfl ?_
            refine ok_goto 30 dX10_watch_297 (by decide) ?_
            exact h
          clear h
          refine ok_ic_ne 290 dX10_watch_283 (by decide) (fun z24 => ?_) (fun z24 => ?_)
          · refine ok_iload_n 3 dX10_watch_290 rfl rfl ?_
            refine ok_iconst 1 dX10_watch_291 (by decide) ?_
            refine ok_iadd dX10_watch_292 ?_
            refine ok_wk [some (.ref v0), some (.int v1), some (.int x23), none, some (.int v4), some (.int v5), some (.int x18), some (.int x19), some (.int x20), some (.int x21), some (.int v10), none, none, none] ⟨rfl, rfl, rfl, rfl, rfl, rfl, rfl, rfl, rfl, rfl, trivial⟩ ?_
            exact k27 ((v3 + 1)) (by simp only [if_neg z24])
          · refine ok_iload_n 3 dX10_watch_286 rfl rfl ?_
            refine ok_goto 293 dX10_watch_287 (by decide) ?_
            refine ok_wk [some (.ref v0), some (.int v1), some (.int x23), none, some (.int v4), some (.int v5), some (.int x18), some (.int x19), some (.int x20), some (.int x21), some (.int v10), none, none, none] ⟨rfl, rfl, rfl, rfl, rfl, rfl, rfl, rfl, rfl, rfl, trivial⟩ ?_
            exact k27 (v3) (by simp only [if_pos z24])
        clear h
        refine ok_ic_ne 276 dX10_watch_269 (by decide) (fun z22 => ?_) (fun z22 => ?_)
        · refine ok_iload_n 2 dX10_watch_276 rfl rfl ?_
          refine ok_iconst 1 dX10_watch_277 (by decide) ?_
          refine ok_iadd dX10_watch_278 ?_
          refine ok_wk [some (.ref v0), some (.int v1), none, some (.int v3), some (.int v4), some (.int v5), some (.int x18), some (.int x19), some (.int x20), some (.int x21), some (.int v10), some (.int x7), none, none] ⟨rfl, rfl, rfl, rfl, rfl, rfl, rfl, rfl, rfl, rfl, rfl, trivial⟩ ?_
          exact k28 ((v2 + 1)) (by simp only [if_neg z22])
        · refine ok_iload_n 2 dX10_watch_272 rfl rfl ?_
          refine ok_goto 279 dX10_watch_273 (by decide) ?_
          refine ok_wk [some (.ref v0), some (.int v1), none, some (.int v3), some (.int v4), some (.int v5), some (.int x18), some (.int x19), some (.int x20), some (.int x21), some (.int v10), some (.int x7), none, none] ⟨rfl, rfl, rfl, rfl, rfl, rfl, rfl, rfl, rfl, rfl, rfl, trivial⟩ ?_
          exact k28 (v2) (by simp only [if_pos z22])
      clear h
      refine ok_ic_ne 226 dX10_watch_217 (by decide) (fun z9 => ?_) (fun z9 => ?_)
      · replace hs := hs.1 z9
        refine ok_iinc 1 (v7 + 1) dX10_watch_226 rfl (by decide) rfl (by decide) [some (.ref v0), some (.int v1), some (.int v2), some (.int v3), some (.int v4), some (.int v5), some (.int v6), some (.int (v7 + 1)), some (.int v8), some (.int v9), some (.int v10), some (.int x7), none, none] rfl ?_
        refine ok_iload dX10_watch_229 rfl ?_
        refine ok_if_eq 248 dX10_watch_231 (by decide) (fun z11 => ?_) (fun z11 => ?_)
        · replace hs := hs.1 z11
          refine ok_iconst 0 dX10_watch_248 (by decide) ?_
          refine ok_istore dX10_watch_249 (by decide) [some (.ref v0), some (.int v1), some (.int v2), some (.int v3), some (.int v4), some (.int v5), some (.int v6), some (.int (v7 + 1)), some (.int v8), some (.int 0), some (.int v10), some (.int x7), none, none] rfl ?_
          refine ok_iconst 4 dX10_watch_251 (by decide) ?_
          refine ok_iload dX10_watch_252 rfl ?_
          refine ok_imul dX10_watch_254 ?_
          refine ok_aload_n 0 dX10_watch_255 rfl rfl ?_
          refine ok_getr 10 17 dX10_watch_256 f10_53 rfl c1 ?_
          refine ok_iload_n 2 dX10_watch_259 rfl rfl ?_
          obtain ⟨c12, hs⟩  := hs
          obtain ⟨c13, hs⟩  := hs
          refine ok_iald dX10_watch_260 c12 c13 ?_
          refine ok_iconst 4 dX10_watch_261 (by decide) ?_
          refine ok_irem dX10_watch_262 (by decide) ?_
          refine ok_iadd dX10_watch_263 ?_
          refine ok_istore dX10_watch_264 (by decide) [some (.ref v0), some (.int v1), some (.int v2), some (.int v3), some (.int v4), some (.int v5), some (.int v6), some (.int (v7 + 1)), some (.int ((4 * v8) + ((i (r v0 17) v2.toNatClampNeg) - (i (r v0 17) v2.toNatClampNeg) / 4 * 4))), some (.int 0), some (.int v10), some (.int x7), none, none] rfl ?_
          exact k29 (v6) (by simp only [if_neg z9, if_pos z11]) ((v7 + 1)) (by simp only [if_neg z9, if_pos z11]) (((4 * v8) + ((i (r v0 17) v2.toNatClampNeg) - (i (r v0 17) v2.toNatClampNeg) / 4 * 4))) (by simp only [if_neg z9, if_pos z11]) (0) (by simp only [if_neg z9, if_pos z11])
        · replace hs := hs.2 z11
          refine ok_aload_n 0 dX10_watch_234 rfl rfl ?_
          refine ok_getr 10 17 dX10_watch_235 f10_53 rfl c1 ?_
          refine ok_iload_n 2 dX10_watch_238 rfl rfl ?_
          obtain ⟨c14, hs⟩  := hs
          obtain ⟨c15, hs⟩  := hs
          refine ok_iald dX10_watch_239 c14 c15 ?_
          refine ok_iconst 4 dX10_watch_240 (by decide) ?_
          refine ok_ic_ge 248 dX10_watch_241 (by decide) (fun z16 => ?_) (fun z16 => ?_)
          · refine ok_iconst 0 dX10_watch_248 (by decide) ?_
            refine ok_istore dX10_watch_249 (by decide) [some (.ref v0), some (.int v1), some (.int v2), some (.int v3), some (.int v4), some (.int v5), some (.int v6), some (.int (v7 + 1)), some (.int v8), some (.int 0), some (.int v10), some (.int x7), none, none] rfl ?_
            refine ok_iconst 4 dX10_watch_251 (by decide) ?_
            refine ok_iload dX10_watch_252 rfl ?_
            refine ok_imul dX10_watch_254 ?_
            refine ok_aload_n 0 dX10_watch_255 rfl rfl ?_
            refine ok_getr 10 17 dX10_watch_256 f10_53 rfl c1 ?_
            refine ok_iload_n 2 dX10_watch_259 rfl rfl ?_
            refine ok_iald dX10_watch_260 c14 c15 ?_
            refine ok_iconst 4 dX10_watch_261 (by decide) ?_
            refine ok_irem dX10_watch_262 (by decide) ?_
            refine ok_iadd dX10_watch_263 ?_
            refine ok_istore dX10_watch_264 (by decide) [some (.ref v0), some (.int v1), some (.int v2), some (.int v3), some (.int v4), some (.int v5), some (.int v6), some (.int (v7 + 1)), some (.int ((4 * v8) + ((i (r v0 17) v2.toNatClampNeg) - (i (r v0 17) v2.toNatClampNeg) / 4 * 4))), some (.int 0), some (.int v10), some (.int x7), none, none] rfl ?_
            exact k29 (v6) (by simp only [if_neg z9, if_neg z11, if_pos z16]) ((v7 + 1)) (by simp only [if_neg z9, if_neg z11, if_pos z16]) (((4 * v8) + ((i (r v0 17) v2.toNatClampNeg) - (i (r v0 17) v2.toNatClampNeg) / 4 * 4))) (by simp only [if_neg z9, if_neg z11, if_pos z16]) (0) (by simp only [if_neg z9, if_neg z11, if_pos z16])
          · refine ok_iconst 1 dX10_watch_244 (by decide) ?_
            refine ok_goto 249 dX10_watch_245 (by decide) ?_
            refine ok_istore dX10_watch_249 (by decide) [some (.ref v0), some (.int v1), some (.int v2), some (.int v3), some (.int v4), some (.int v5), some (.int v6), some (.int (v7 + 1)), some (.int v8), some (.int 1), some (.int v10), some (.int x7), none, none] rfl ?_
            refine ok_iconst 4 dX10_watch_251 (by decide) ?_
            refine ok_iload dX10_watch_252 rfl ?_
            refine ok_imul dX10_watch_254 ?_
            refine ok_aload_n 0 dX10_watch_255 rfl rfl ?_
            refine ok_getr 10 17 dX10_watch_256 f10_53 rfl c1 ?_
            refine ok_iload_n 2 dX10_watch_259 rfl rfl ?_
            refine ok_iald dX10_watch_260 c14 c15 ?_
            refine ok_iconst 4 dX10_watch_261 (by decide) ?_
            refine ok_irem dX10_watch_262 (by decide) ?_
            refine ok_iadd dX10_watch_263 ?_
            refine ok_istore dX10_watch_264 (by decide) [some (.ref v0), some (.int v1), some (.int v2), some (.int v3), some (.int v4), some (.int v5), some (.int v6), some (.int (v7 + 1)), some (.int ((4 * v8) + ((i (r v0 17) v2.toNatClampNeg) - (i (r v0 17) v2.toNatClampNeg) / 4 * 4))), some (.int 1), some (.int v10), some (.int x7), none, none] rfl ?_
            exact k29 (v6) (by simp only [if_neg z9, if_neg z11, if_neg z16]) ((v7 + 1)) (by simp only [if_neg z9, if_neg z11, if_neg z16]) (((4 * v8) + ((i (r v0 17) v2.toNatClampNeg) - (i (r v0 17) v2.toNatClampNeg) / 4 * 4))) (by simp only [if_neg z9, if_neg z11, if_neg z16]) (1) (by simp only [if_neg z9, if_neg z11, if_neg z16])
      · replace hs := hs.2 z9
        refine ok_iinc 1 (v6 + 1) dX10_watch_220 rfl (by decide) rfl (by decide) [some (.ref v0), some (.int v1), some (.int v2), some (.int v3), some (.int v4), some (.int v5), some (.int (v6 + 1)), some (.int v7), some (.int v8), some (.int v9), some (.int v10), some (.int x7), none, none] rfl ?_
        refine ok_goto 266 dX10_watch_223 (by decide) ?_
        exact k29 ((v6 + 1)) (by simp only [if_pos z9]) (v7) (by simp only [if_pos z9]) (v8) (by simp only [if_pos z9]) (v9) (by simp only [if_pos z9])
    · replace h := h.2 z8
      refine ok_aload_n 0 dX10_watch_61 rfl rfl ?_
      refine ok_getr 10 18 dX10_watch_62 f10_56 rfl c1 ?_
      refine ok_iload_n 2 dX10_watch_65 rfl rfl ?_
      obtain ⟨c30, h⟩ := h
      obtain ⟨c31, h⟩ := h
      refine ok_iald dX10_watch_66 c30 c31 ?_
      refine ok_topi (fun x32 ex32 => ?_)
      replace h := h x32 ex32
      refine ok_istore dX10_watch_67 (by decide) [some (.ref v0), some (.int v1), some (.int v2), some (.int v3), some (.int v4), some (.int v5), some (.int v6), some (.int v7), some (.int v8), some (.int v9), some (.int v10), some (.int x7), some (.int x32), none] rfl ?_
      refine ok_aload_n 0 dX10_watch_69 rfl rfl ?_
      refine ok_getr 10 17 dX10_watch_70 f10_53 rfl c1 ?_
      refine ok_iload_n 2 dX10_watch_73 rfl rfl ?_
      obtain ⟨c33, h⟩ := h
      obtain ⟨c34, h⟩ := h
      refine ok_iald dX10_watch_74 c33 c34 ?_
      refine ok_iconst 4 dX10_watch_75 (by decide) ?_
      refine ok_ic_ge 92 dX10_watch_76 (by decide) (fun z35 => ?_) (fun z35 => ?_)
      · replace h := h.1 z35
        exact h
      · replace h := h.2 z35
        refine ok_aload_n 0 dX10_watch_79 rfl rfl ?_
        refine ok_iload_n 3 dX10_watch_80 rfl rfl ?_
        refine ok_aload_n 0 dX10_watch_81 rfl rfl ?_
        refine ok_getr 10 17 dX10_watch_82 f10_53 rfl c1 ?_
        refine ok_iload_n 2 dX10_watch_85 rfl rfl ?_
        refine ok_iald dX10_watch_86 c33 c34 ?_
        refine ok_iload dX10_watch_87 rfl ?_
        refine ok_cVv (rest := []) o_rc 10 [.int v3, .int (i (r v0 17) v2.toNatClampNeg), .int x32] dX10_watch_89 k10_136 c1 rfl rfl (Nat.le_of_ble_eq_true rfl) h (fun i36 h => ?_)
        exact h

set_option maxRecDepth 100000 in
set_option maxHeartbeats 4000000 in
theorem sX10_watch_92 {G : o_G} {d : Nat} {P : o_P} {i : o_I} {r : o_R} (v0 : Nat) (v1 : Int32) (v2 : Int32) (v3 : Int32) (v4 : Int32) (v5 : Int32) (v6 : Int32) (v7 : Int32) (v8 : Int32) (v9 : Int32) (v10 : Int32) (v11 : Int32) (v12 : Int32)
    (h : (∀ x2 : Int32, x2 = (if v5 ≤ v12 then v5 else v12) → ((v4 < 0 → Ok G (d + 1) mX10_watch P 132 [some (.ref v0), some (.int v1), some (.int v2), some (.int v3), some (.int v4), none, some (.int v6), some (.int v7), some (.int v8), some (.int v9), some (.int v10), some (.int v11), some (.int v12), some (.int x2)] [] i r) ∧ (¬ v4 < 0 → ((¬ v6 = 0 → Ok G (d + 1) mX10_watch P 132 [some (.ref v0), some (.int v1), some (.int v2), some (.int v3), some (.int v4), none, some (.int v6), some (.int v7), some (.int v8), some (.int v9), some (.int v10), some (.int v11), some (.int v12), some (.int x2)] [] i r) ∧ (v6 = 0 → ((¬ v7 = 0 → Ok G (d + 1) mX10_watch P 132 [some (.ref v0), some (.int v1), some (.int v2), some (.int v3), some (.int v4), none, some (.int v6), some (.int v7), some (.int v8), some (.int v9), some (.int v10), some (.int v11), some (.int v12), some (.int x2)] [] i r) ∧ (v7 = 0 → o_O G v0 10 ∧ SpV G d mX10_link [.ref v0, .int v4, .int 0, .int x2] (fun i7 => Ok G (d + 1) mX10_watch P 132 [some (.ref v0), some (.int v1), some (.int v2), some (.int v3), some (.int v4), none, some (.int v6), some (.int v7), some (.int v8), some (.int v9), some (.int v10), some (.int v11), some (.int v12), some (.int x2)] [] i7 r) i r)))))))) :
    Ok G (d + 1) mX10_watch P 92 [some (.ref v0), some (.int v1), some (.int v2), some (.int v3), some (.int v4), some (.int v5), some (.int v6), some (.int v7), some (.int v8), some (.int v9), some (.int v10), some (.int v11), some (.int v12), none] [] i r := by
  refine ok_iload dX10_watch_92 rfl ?_
  refine ok_iload dX10_watch_94 rfl ?_
  have k8 : ∀ x2 : Int32, x2 = (if v5 ≤ v12 then v5 else v12) → Ok G (d + 1) mX10_watch P 106 [some (.ref v0), some (.int v1), some (.int v2), some (.int v3), some (.int v4), none, some (.int v6), some (.int v7), some (.int v8), some (.int v9), some (.int v10), some (.int v11), some (.int v12), none] [.int x2] i r := by
    intro x2 ex2
    replace h := h x2 ex2
    refine ok_istore dX10_watch_106 (by decide) [some (.ref v0), some (.int v1), some (.int v2), some (.int v3), some (.int v4), none, some (.int v6), some (.int v7), some (.int v8), some (.int v9), some (.int v10), some (.int v11), some (.int v12), some (.int x2)] rfl ?_
    refine ok_iload dX10_watch_108 rfl ?_
    refine ok_if_lt 132 dX10_watch_110 (by decide) (fun z3 => ?_) (fun z3 => ?_)
    · replace h := h.1 z3
      exact h
    · replace h := h.2 z3
      refine ok_iload dX10_watch_113 rfl ?_
      refine ok_if_ne 132 dX10_watch_115 (by decide) (fun z4 => ?_) (fun z4 => ?_)
      · replace h := h.1 z4
        exact h
      · replace h := h.2 z4
        refine ok_iload dX10_watch_118 rfl ?_
        refine ok_if_ne 132 dX10_watch_120 (by decide) (fun z5 => ?_) (fun z5 => ?_)
        · replace h := h.1 z5
          exact h
        · replace h := h.2 z5
          refine ok_aload_n 0 dX10_watch_123 rfl rfl ?_
          refine ok_iload dX10_watch_124 rfl ?_
          refine ok_iconst 0 dX10_watch_126 (by decide) ?_
          refine ok_iload dX10_watch_127 rfl ?_
          obtain ⟨c6, h⟩ := h
          refine ok_cVv (rest := []) o_rc 10 [.int v4, .int 0, .int x2] dX10_watch_129 k10_140 c6 rfl rfl (Nat.le_of_ble_eq_true rfl) h (fun i7 h => ?_)
          exact h
  clear h
  refine ok_ic_ge 104 dX10_watch_96 (by decide) (fun z1 => ?_) (fun z1 => ?_)
  · refine ok_iload dX10_watch_104 rfl ?_
    refine ok_wk [some (.ref v0), some (.int v1), some (.int v2), some (.int v3), some (.int v4), none, some (.int v6), some (.int v7), some (.int v8), some (.int v9), some (.int v10), some (.int v11), some (.int v12), none] ⟨rfl, rfl, rfl, rfl, rfl, rfl, rfl, rfl, rfl, rfl, rfl, rfl, trivial⟩ ?_
    exact k8 (v5) (by simp only [if_pos z1])
  · refine ok_iload dX10_watch_99 rfl ?_
    refine ok_goto 106 dX10_watch_101 (by decide) ?_
    refine ok_wk [some (.ref v0), some (.int v1), some (.int v2), some (.int v3), some (.int v4), none, some (.int v6), some (.int v7), some (.int v8), some (.int v9), some (.int v10), some (.int v11), some (.int v12), none] ⟨rfl, rfl, rfl, rfl, rfl, rfl, rfl, rfl, rfl, rfl, rfl, rfl, trivial⟩ ?_
    exact k8 (v12) (by simp only [if_neg z1])

set_option maxRecDepth 100000 in
set_option maxHeartbeats 4000000 in
theorem sX10_watch_132 {G : o_G} {d : Nat} {P : o_P} {i : o_I} {r : o_R} (v0 : Nat) (v1 : Int32) (v2 : Int32) (v3 : Int32) (v4 : Int32) (v6 : Int32) (v7 : Int32) (v8 : Int32) (v9 : Int32) (v10 : Int32) (v11 : Int32) (v12 : Int32) (v13 : Int32)
    (h : ((v4 < 0 → Ok G (d + 1) mX10_watch P 157 [some (.ref v0), some (.int v1), some (.int v2), some (.int v3), some (.int v4), none, some (.int v6), some (.int v7), some (.int v8), some (.int v9), some (.int v10), some (.int v11), some (.int v12), some (.int v13)] [] i r) ∧ (¬ v4 < 0 → ((v6 ≤ 0 → Ok G (d + 1) mX10_watch P 157 [some (.ref v0), some (.int v1), some (.int v2), some (.int v3), some (.int v4), none, some (.int v6), some (.int v7), some (.int v8), some (.int v9), some (.int v10), some (.int v11), some (.int v12), some (.int v13)] [] i r) ∧ (¬ v6 ≤ 0 → ((¬ v7 = 0 → Ok G (d + 1) mX10_watch P 157 [some (.ref v0), some (.int v1), some (.int v2), some (.int v3), some (.int v4), none, some (.int v6), some (.int v7), some (.int v8), some (.int v9), some (.int v10), some (.int v11), some (.int v12), some (.int v13)] [] i r) ∧ (v7 = 0 → o_O G v0 10 ∧ SpV G d mX10_link [.ref v0, .int v4, .int v6, .int v13] (fun i5 => Ok G (d + 1) mX10_watch P 157 [some (.ref v0), some (.int v1), some (.int v2), some (.int v3), some (.int v4), none, some (.int v6), some (.int v7), some (.int v8), some (.int v9), some (.int v10), some (.int v11), some (.int v12), some (.int v13)] [] i5 r) i r))))))) :
    Ok G (d + 1) mX10_watch P 132 [some (.ref v0), some (.int v1), some (.int v2), some (.int v3), some (.int v4), none, some (.int v6), some (.int v7), some (.int v8), some (.int v9), some (.int v10), some (.int v11), some (.int v12), some (.int v13)] [] i r := by
  refine ok_iload dX10_watch_132 rfl ?_
  refine ok_if_lt 157 dX10_watch_134 (by decide) (fun z1 => ?_) (fun z1 => ?_)
  · replace h := h.1 z1
    exact h
  · replace h := h.2 z1
    refine ok_iload dX10_watch_137 rfl ?_
    refine ok_if_le 157 dX10_watch_139 (by decide) (fun z2 => ?_) (fun z2 => ?_)
    · replace h := h.1 z2
      exact h
    · replace h := h.2 z2
      refine ok_iload dX10_watch_142 rfl ?_
      refine ok_if_ne 157 dX10_watch_144 (by decide) (fun z3 => ?_) (fun z3 => ?_)
      · replace h := h.1 z3
        exact h
      · replace h := h.2 z3
        refine ok_aload_n 0 dX10_watch_147 rfl rfl ?_
        refine ok_iload dX10_watch_148 rfl ?_
        refine ok_iload dX10_watch_150 rfl ?_
        refine ok_iload dX10_watch_152 rfl ?_
        obtain ⟨c4, h⟩ := h
        refine ok_cVv (rest := []) o_rc 10 [.int v4, .int v6, .int v13] dX10_watch_154 k10_140 c4 rfl rfl (Nat.le_of_ble_eq_true rfl) h (fun i5 h => ?_)
        exact h

set_option maxRecDepth 100000 in
set_option maxHeartbeats 4000000 in
theorem sX10_watch_157 {G : o_G} {d : Nat} {P : o_P} {i : o_I} {r : o_R} (v0 : Nat) (v1 : Int32) (v2 : Int32) (v3 : Int32) (v4 : Int32) (v6 : Int32) (v7 : Int32) (v8 : Int32) (v9 : Int32) (v10 : Int32) (v11 : Int32) (v12 : Int32) (v13 : Int32)
    (h : ((v4 < 0 → Ok G (d + 1) mX10_watch P 192 [some (.ref v0), some (.int v1), some (.int v2), some (.int v3), none, none, none, none, none, none, some (.int v10), some (.int v11), some (.int v12), none] [] i r) ∧ (¬ v4 < 0 → ((¬ v6 = 0 → Ok G (d + 1) mX10_watch P 192 [some (.ref v0), some (.int v1), some (.int v2), some (.int v3), none, none, none, none, none, none, some (.int v10), some (.int v11), some (.int v12), none] [] i r) ∧ (v6 = 0 → ((v7 ≤ 0 → Ok G (d + 1) mX10_watch P 192 [some (.ref v0), some (.int v1), some (.int v2), some (.int v3), none, none, none, none, none, none, some (.int v10), some (.int v11), some (.int v12), none] [] i r) ∧ (¬ v7 ≤ 0 → ((v9 = 0 → Ok G (d + 1) mX10_watch P 192 [some (.ref v0), some (.int v1), some (.int v2), some (.int v3), none, none, none, none, none, none, some (.int v10), some (.int v11), some (.int v12), none] [] i r) ∧ (¬ v9 = 0 → SpI G d mX10_gainOf [.int v7, .int v8] (fun x5 i5 => o_O G v0 10 ∧ SpV G d mX10_link [.ref v0, .int v4, .int x5, .int v13] (fun i7 => Ok G (d + 1) mX10_watch P 192 [some (.ref v0), some (.int v1), some (.int v2), some (.int v3), none, none, none, none, none, none, some (.int v10), some (.int v11), some (.int v12), none] [] i7 r) i5 r) i r))))))))) :
    Ok G (d + 1) mX10_watch P 157 [some (.ref v0), some (.int v1), some (.int v2), some (.int v3), some (.int v4), none, some (.int v6), some (.int v7), some (.int v8), some (.int v9), some (.int v10), some (.int v11), some (.int v12), some (.int v13)] [] i r := by
  refine ok_iload dX10_watch_157 rfl ?_
  refine ok_if_lt 192 dX10_watch_159 (by decide) (fun z1 => ?_) (fun z1 => ?_)
  · replace h := h.1 z1
    refine ok_wk [some (.ref v0), some (.int v1), some (.int v2), some (.int v3), none, none, none, none, none, none, some (.int v10), some (.int v11), some (.int v12), none] ⟨rfl, rfl, rfl, rfl, rfl, rfl, rfl, trivial⟩ ?_
    exact h
  · replace h := h.2 z1
    refine ok_iload dX10_watch_162 rfl ?_
    refine ok_if_ne 192 dX10_watch_164 (by decide) (fun z2 => ?_) (fun z2 => ?_)
    · replace h := h.1 z2
      refine ok_wk [some (.ref v0), some (.int v1), some (.int v2), some (.int v3), none, none, none, none, none, none, some (.int v10), some (.int v11), some (.int v12), none] ⟨rfl, rfl, rfl, rfl, rfl, rfl, rfl, trivial⟩ ?_
      exact h
    · replace h := h.2 z2
      refine ok_iload dX10_watch_167 rfl ?_
      refine ok_if_le 192 dX10_watch_169 (by decide) (fun z3 => ?_) (fun z3 => ?_)
      · replace h := h.1 z3
        refine ok_wk [some (.ref v0), some (.int v1), some (.int v2), some (.int v3), none, none, none, none, none, none, some (.int v10), some (.int v11), some (.int v12), none] ⟨rfl, rfl, rfl, rfl, rfl, rfl, rfl, trivial⟩ ?_
        exact h
      · replace h := h.2 z3
        refine ok_iload dX10_watch_172 rfl ?_
        refine ok_if_eq 192 dX10_watch_174 (by decide) (fun z4 => ?_) (fun z4 => ?_)
        · replace h := h.1 z4
          refine ok_wk [some (.ref v0), some (.int v1), some (.int v2), some (.int v3), none, none, none, none, none, none, some (.int v10), some (.int v11), some (.int v12), none] ⟨rfl, rfl, rfl, rfl, rfl, rfl, rfl, trivial⟩ ?_
          exact h
        · replace h := h.2 z4
          refine ok_aload_n 0 dX10_watch_177 rfl rfl ?_
          refine ok_iload dX10_watch_178 rfl ?_
          refine ok_iload dX10_watch_180 rfl ?_
          refine ok_iload dX10_watch_182 rfl ?_
          refine ok_cSi (rest := [.int v4, .ref v0]) o_rc [.int v7, .int v8] dX10_watch_184 k10_143 rfl rfl (Nat.le_of_ble_eq_true rfl) h (fun x5 i5 h => ?_)
          refine ok_iload dX10_watch_187 rfl ?_
          obtain ⟨c6, h⟩ := h
          refine ok_cVv (rest := []) o_rc 10 [.int v4, .int x5, .int v13] dX10_watch_189 k10_140 c6 rfl rfl (Nat.le_of_ble_eq_true rfl) h (fun i7 h => ?_)
          refine ok_wk [some (.ref v0), some (.int v1), some (.int v2), some (.int v3), none, none, none, none, none, none, some (.int v10), some (.int v11), some (.int v12), none] ⟨rfl, rfl, rfl, rfl, rfl, rfl, rfl, trivial⟩ ?_
          exact h

set_option maxRecDepth 100000 in
set_option maxHeartbeats 4000000 in
theorem sX10_watch_192 {G : o_G} {d : Nat} {P : o_P} {i : o_I} {r : o_R} (v0 : Nat) (v1 : Int32) (v2 : Int32) (v3 : Int32) (v10 : Int32) (v11 : Int32) (v12 : Int32)
    (h : (∀ x2 : Int32, x2 = (if v11 = 2 then v2 else (v2 + 1)) → (∀ x4 : Int32, x4 = (if v11 = 3 then v3 else (v3 + 1)) → ∀ x5 : Int32, x5 = v10 + 1 → Ok G (d + 1) mX10_watch P 30 [some (.ref v0), some (.int v1), some (.int x2), some (.int x4), some (.int v3), some (.int v12), some (.int 0), some (.int 0), some (.int 0), some (.int 1), some (.int x5), none, none, none] [] i r))) :
    Ok G (d + 1) mX10_watch P 192 [some (.ref v0), some (.int v1), some (.int v2), some (.int v3), none, none, none, none, none, none, some (.int v10), some (.int v11), some (.int v12), none] [] i r := by
  refine ok_iload_n 3 dX10_watch_192 rfl rfl ?_
  refine ok_istore dX10_watch_193 (by decide) [some (.ref v0), some (.int v1), some (.int v2), some (.int v3), some (.int v3), none, none, none, none, none, some (.int v10), some (.int v11), some (.int v12), none] rfl ?_
  refine ok_iload dX10_watch_195 rfl ?_
  refine ok_istore dX10_watch_197 (by decide) [some (.ref v0), some (.int v1), some (.int v2), some (.int v3), some (.int v3), some (.int v12), none, none, none, none, some (.int v10), some (.int v11), some (.int v12), none] rfl ?_
  refine ok_iconst 0 dX10_watch_199 (by decide) ?_
  refine ok_istore dX10_watch_200 (by decide) [some (.ref v0), some (.int v1), some (.int v2), some (.int v3), some (.int v3), some (.int v12), some (.int 0), none, none, none, some (.int v10), some (.int v11), some (.int v12), none] rfl ?_
  refine ok_iconst 0 dX10_watch_202 (by decide) ?_
  refine ok_istore dX10_watch_203 (by decide) [some (.ref v0), some (.int v1), some (.int v2), some (.int v3), some (.int v3), some (.int v12), some (.int 0), some (.int 0), none, none, some (.int v10), some (.int v11), some (.int v12), none] rfl ?_
  refine ok_iconst 0 dX10_watch_205 (by decide) ?_
  refine ok_istore dX10_watch_206 (by decide) [some (.ref v0), some (.int v1), some (.int v2), some (.int v3), some (.int v3), some (.int v12), some (.int 0), some (.int 0), some (.int 0), none, some (.int v10), some (.int v11), some (.int v12), none] rfl ?_
  refine ok_iconst 1 dX10_watch_208 (by decide) ?_
  refine ok_istore dX10_watch_209 (by decide) [some (.ref v0), some (.int v1), some (.int v2), some (.int v3), some (.int v3), some (.int v12), some (.int 0), some (.int 0), some (.int 0), some (.int 1), some (.int v10), some (.int v11), some (.int v12), none] rfl ?_
  refine ok_goto 266 dX10_watch_211 (by decide) ?_
  refine ok_iload dX10_watch_266 rfl ?_
  refine ok_iconst 2 dX10_watch_268 (by decide) ?_
  have k7 : ∀ x2 : Int32, x2 = (if v11 = 2 then v2 else (v2 + 1)) → Ok G (d + 1) mX10_watch P 279 [some (.ref v0), some (.int v1), none, some (.int v3), some (.int v3), some (.int v12), some (.int 0), some (.int 0), some (.int 0), some (.int 1), some (.int v10), some (.int v11), none, none] [.int x2] i r := by
    intro x2 ex2
    replace h := h x2 ex2
    refine ok_istore_n 2 dX10_watch_279 rfl (by decide) [some (.ref v0), some (.int v1), some (.int x2), some (.int v3), some (.int v3), some (.int v12), some (.int 0), some (.int 0), some (.int 0), some (.int 1), some (.int v10), some (.int v11), none, none] rfl ?_
    refine ok_iload dX10_watch_280 rfl ?_
    refine ok_iconst 3 dX10_watch_282 (by decide) ?_
    have k6 : ∀ x4 : Int32, x4 = (if v11 = 3 then v3 else (v3 + 1)) → Ok G (d + 1) mX10_watch P 293 [some (.ref v0), some (.int v1), some (.int x2), none, some (.int v3), some (.int v12), some (.int 0), some (.int 0), some (.int 0), some (.int 1), some (.int v10), none, none, none] [.int x4] i r := by
      intro x4 ex4
      replace h := h x4 ex4
      refine ok_istore_n 3 dX10_watch_293 rfl (by decide) [some (.ref v0), some (.int v1), some (.int x2), some (.int x4), some (.int v3), some (.int v12), some (.int 0), some (.int 0), some (.int 0), some (.int 1), some (.int v10), none, none, none] rfl ?_
      refine ok_eqi (v10 + 1) (fun x5 ex5 => ?_)
      replace h := h x5 ex5
      refine ok_iinc 1 x5 dX10_watch_294 rfl (by decide) ex5 (by decide) [some (.ref v0), some (.int v1), some (.int x2), some (.int x4), some (.int v3), some (.int v12), some (.int 0), some (.int 0), some (.int 0), some (.int 1), some (.int x5), none, none, none] rfl ?_
      refine ok_goto 30 dX10_watch_297 (by decide) ?_
      exact h
    clear h
    refine ok_ic_ne 290 dX10_watch_283 (by decide) (fun z3 => ?_) (fun z3 => ?_)
    · refine ok_iload_n 3 dX10_watch_290 rfl rfl ?_
      refine ok_iconst 1 dX10_watch_291 (by decide) ?_
      refine ok_iadd dX10_watch_292 ?_
      refine ok_wk [some (.ref v0), some (.int v1), some (.int x2), none, some (.int v3), some (.int v12), some (.int 0), some (.int 0), some (.int 0), some (.int 1), some (.int v10), none, none, none] ⟨rfl, rfl, rfl, rfl, rfl, rfl, rfl, rfl, rfl, rfl, trivial⟩ ?_
      exact k6 ((v3 + 1)) (by simp only [if_neg z3])
    · refine ok_iload_n 3 dX10_watch_286 rfl rfl ?_
      refine ok_goto 293 dX10_watch_287 (by decide) ?_
      refine ok_wk [some (.ref v0), some (.int v1), some (.int x2), none, some (.int v3), some (.int v12), some (.int 0), some (.int 0), some (.int 0), some (.int 1), some (.int v10), none, none, none] ⟨rfl, rfl, rfl, rfl, rfl, rfl, rfl, rfl, rfl, rfl, trivial⟩ ?_
      exact k6 (v3) (by simp only [if_pos z3])
  clear h
  refine ok_ic_ne 276 dX10_watch_269 (by decide) (fun z1 => ?_) (fun z1 => ?_)
  · refine ok_iload_n 2 dX10_watch_276 rfl rfl ?_
    refine ok_iconst 1 dX10_watch_277 (by decide) ?_
    refine ok_iadd dX10_watch_278 ?_
    refine ok_wk [some (.ref v0), some (.int v1), none, some (.int v3), some (.int v3), some (.int v12), some (.int 0), some (.int 0), some (.int 0), some (.int 1), some (.int v10), some (.int v11), none, none] ⟨rfl, rfl, rfl, rfl, rfl, rfl, rfl, rfl, rfl, rfl, rfl, trivial⟩ ?_
    exact k7 ((v2 + 1)) (by simp only [if_neg z1])
  · refine ok_iload_n 2 dX10_watch_272 rfl rfl ?_
    refine ok_goto 279 dX10_watch_273 (by decide) ?_
    refine ok_wk [some (.ref v0), some (.int v1), none, some (.int v3), some (.int v3), some (.int v12), some (.int 0), some (.int 0), some (.int 0), some (.int 1), some (.int v10), some (.int v11), none, none] ⟨rfl, rfl, rfl, rfl, rfl, rfl, rfl, rfl, rfl, rfl, rfl, trivial⟩ ?_
    exact k7 (v2) (by simp only [if_pos z1])

set_option maxRecDepth 100000 in
set_option maxHeartbeats 4000000 in
theorem sX10_write_0 {G : o_G} {d : Nat} {P : o_P} {i : o_I} {r : o_R} (v0 : Nat) (v1 : Int32)
    (h : o_O G v0 10 ∧ ∀ i2 : o_I, i2 = o_up i v0 39 v1 → ∀ i3 : o_I, i3 = o_up i2 v0 38 0 → ∀ i4 : o_I, i4 = o_up i3 v0 40 0 → ((¬ (i4 v0 37) = 0 → SpV G d mX10_outHead [.ref v0] (fun i6 => Ok G (d + 1) mX10_write P 29 [some (.ref v0), none, some (.int 0)] [] i6 r) i4 r) ∧ ((i4 v0 37) = 0 → P none i4 r))) :
    Ok G (d + 1) mX10_write P 0 [some (.ref v0), some (.int v1), none] [] i r := by
  refine ok_aload_n 0 dX10_write_0 rfl rfl ?_
  refine ok_iload_n 1 dX10_write_1 rfl rfl ?_
  obtain ⟨c1, h⟩ := h
  refine ok_puti 10 39 .int dX10_write_2 f10_226 rfl rfl (by decide +kernel) rfl rfl c1 ?_
  refine ok_nmi (fun i2 ei2 => ?_)
  replace h := h i2 ei2
  refine ok_aload_n 0 dX10_write_5 rfl rfl ?_
  refine ok_iconst 0 dX10_write_6 (by decide) ?_
  refine ok_puti 10 38 .int dX10_write_7 f10_223 rfl rfl (by decide +kernel) rfl rfl c1 ?_
  refine ok_nmi (fun i3 ei3 => ?_)
  replace h := h i3 ei3
  refine ok_aload_n 0 dX10_write_10 rfl rfl ?_
  refine ok_iconst 0 dX10_write_11 (by decide) ?_
  refine ok_puti 10 40 .int dX10_write_12 f10_229 rfl rfl (by decide +kernel) rfl rfl c1 ?_
  refine ok_nmi (fun i4 ei4 => ?_)
  replace h := h i4 ei4
  refine ok_aload_n 0 dX10_write_15 rfl rfl ?_
  refine ok_geti 10 37 dX10_write_16 f10_203 rfl c1 ?_
  refine ok_if_ne 23 dX10_write_19 (by decide) (fun z5 => ?_) (fun z5 => ?_)
  · replace h := h.1 z5
    refine ok_aload_n 0 dX10_write_23 rfl rfl ?_
    refine ok_cVv (rest := []) o_rc 10 [] dX10_write_24 k10_257 c1 rfl rfl (Nat.le_of_ble_eq_true rfl) h (fun i6 h => ?_)
    refine ok_iconst 0 dX10_write_27 (by decide) ?_
    refine ok_istore_n 2 dX10_write_28 rfl (by decide) [some (.ref v0), some (.int v1), some (.int 0)] rfl ?_
    refine ok_wk [some (.ref v0), none, some (.int 0)] ⟨rfl, rfl, trivial⟩ ?_
    exact h
  · replace h := h.2 z5
    exact ok_vret dX10_write_22 rfl h

set_option maxRecDepth 100000 in
set_option maxHeartbeats 4000000 in
theorem sX10_write_29 {G : o_G} {d : Nat} {P : o_P} {i : o_I} {r : o_R} (v0 : Nat) (v2 : Int32)
    (h : o_O G v0 10 ∧ (((i v0 2) ≤ v2 → P none i r) ∧ (¬ (i v0 2) ≤ v2 → SpI G d mX10_siteThere [.ref v0, .int 0, .int v2] (fun x3 i3 => ((x3 = 0 → SpI G d mX10_siteThere [.ref v0, .int 1, .int v2] (fun x5 i5 => ((x5 = 0 → ∀ x7 : Int32, x7 = v2 + 1 → Ok G (d + 1) mX10_write P 29 [some (.ref v0), none, some (.int x7)] [] i5 r) ∧ (¬ x5 = 0 → SpV G d mX10_outLine [.ref v0] (fun i8 => ∀ x9 : Int32, x9 = v2 + 1 → Ok G (d + 1) mX10_write P 29 [some (.ref v0), none, some (.int x9)] [] i8 r) i5 r))) i3 r) ∧ (¬ x3 = 0 → SpV G d mX10_outLine [.ref v0] (fun i10 => SpI G d mX10_siteThere [.ref v0, .int 1, .int v2] (fun x11 i11 => ((x11 = 0 → ∀ x13 : Int32, x13 = v2 + 1 → Ok G (d + 1) mX10_write P 29 [some (.ref v0), none, some (.int x13)] [] i11 r) ∧ (¬ x11 = 0 → SpV G d mX10_outLine [.ref v0] (fun i14 => ∀ x15 : Int32, x15 = v2 + 1 → Ok G (d + 1) mX10_write P 29 [some (.ref v0), none, some (.int x15)] [] i14 r) i11 r))) i10 r) i3 r))) i r))) :
    Ok G (d + 1) mX10_write P 29 [some (.ref v0), none, some (.int v2)] [] i r := by
  refine ok_iload_n 2 dX10_write_29 rfl rfl ?_
  refine ok_aload_n 0 dX10_write_30 rfl rfl ?_
  obtain ⟨c1, h⟩ := h
  refine ok_geti 10 2 dX10_write_31 f10_120 rfl c1 ?_
  refine ok_ic_ge 69 dX10_write_34 (by decide) (fun z2 => ?_) (fun z2 => ?_)
  · replace h := h.1 z2
    exact ok_vret dX10_write_69 rfl h
  · replace h := h.2 z2
    refine ok_aload_n 0 dX10_write_37 rfl rfl ?_
    refine ok_iconst 0 dX10_write_38 (by decide) ?_
    refine ok_iload_n 2 dX10_write_39 rfl rfl ?_
    refine ok_cVi (rest := []) o_rc 10 [.int 0, .int v2] dX10_write_40 k10_216 c1 rfl rfl (Nat.le_of_ble_eq_true rfl) h (fun x3 i3 h => ?_)
    refine ok_if_eq 50 dX10_write_43 (by decide) (fun z4 => ?_) (fun z4 => ?_)
    · replace h := h.1 z4
      refine ok_aload_n 0 dX10_write_50 rfl rfl ?_
      refine ok_iconst 1 dX10_write_51 (by decide) ?_
      refine ok_iload_n 2 dX10_write_52 rfl rfl ?_
      refine ok_cVi (rest := []) o_rc 10 [.int 1, .int v2] dX10_write_53 k10_216 c1 rfl rfl (Nat.le_of_ble_eq_true rfl) h (fun x5 i5 h => ?_)
      refine ok_if_eq 63 dX10_write_56 (by decide) (fun z6 => ?_) (fun z6 => ?_)
      · replace h := h.1 z6
        refine ok_eqi (v2 + 1) (fun x7 ex7 => ?_)
        replace h := h x7 ex7
        refine ok_iinc 1 x7 dX10_write_63 rfl (by decide) ex7 (by decide) [some (.ref v0), none, some (.int x7)] rfl ?_
        refine ok_goto 29 dX10_write_66 (by decide) ?_
        exact h
      · replace h := h.2 z6
        refine ok_aload_n 0 dX10_write_59 rfl rfl ?_
        refine ok_cVv (rest := []) o_rc 10 [] dX10_write_60 k10_260 c1 rfl rfl (Nat.le_of_ble_eq_true rfl) h (fun i8 h => ?_)
        refine ok_eqi (v2 + 1) (fun x9 ex9 => ?_)
        replace h := h x9 ex9
        refine ok_iinc 1 x9 dX10_write_63 rfl (by decide) ex9 (by decide) [some (.ref v0), none, some (.int x9)] rfl ?_
        refine ok_goto 29 dX10_write_66 (by decide) ?_
        exact h
    · replace h := h.2 z4
      refine ok_aload_n 0 dX10_write_46 rfl rfl ?_
      refine ok_cVv (rest := []) o_rc 10 [] dX10_write_47 k10_260 c1 rfl rfl (Nat.le_of_ble_eq_true rfl) h (fun i10 h => ?_)
      refine ok_aload_n 0 dX10_write_50 rfl rfl ?_
      refine ok_iconst 1 dX10_write_51 (by decide) ?_
      refine ok_iload_n 2 dX10_write_52 rfl rfl ?_
      refine ok_cVi (rest := []) o_rc 10 [.int 1, .int v2] dX10_write_53 k10_216 c1 rfl rfl (Nat.le_of_ble_eq_true rfl) h (fun x11 i11 h => ?_)
      refine ok_if_eq 63 dX10_write_56 (by decide) (fun z12 => ?_) (fun z12 => ?_)
      · replace h := h.1 z12
        refine ok_eqi (v2 + 1) (fun x13 ex13 => ?_)
        replace h := h x13 ex13
        refine ok_iinc 1 x13 dX10_write_63 rfl (by decide) ex13 (by decide) [some (.ref v0), none, some (.int x13)] rfl ?_
        refine ok_goto 29 dX10_write_66 (by decide) ?_
        exact h
      · replace h := h.2 z12
        refine ok_aload_n 0 dX10_write_59 rfl rfl ?_
        refine ok_cVv (rest := []) o_rc 10 [] dX10_write_60 k10_260 c1 rfl rfl (Nat.le_of_ble_eq_true rfl) h (fun i14 h => ?_)
        refine ok_eqi (v2 + 1) (fun x15 ex15 => ?_)
        replace h := h x15 ex15
        refine ok_iinc 1 x15 dX10_write_63 rfl (by decide) ex15 (by decide) [some (.ref v0), none, some (.int x15)] rfl ?_
        refine ok_goto 29 dX10_write_66 (by decide) ?_
        exact h


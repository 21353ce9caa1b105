set_option maxRecDepth 100000 in
set_option maxHeartbeats 4000000 in
theorem sX10_errorOfReads_0 {G : o_G} {d : Nat} {P : o_P} {i : o_I} {r : o_R} (v0 : Nat)
    (h : Ok G (d + 1) mX10_errorOfReads P 4 [some (.ref v0), some (.int 0), some (.int 0), none, none] [] i r) :
    Ok G (d + 1) mX10_errorOfReads P 0 [some (.ref v0), none, none, none, none] [] i r := by
  refine ok_iconst 0 dX10_errorOfReads_0 (by decide) ?_
  refine ok_istore_n 1 dX10_errorOfReads_1 rfl (by decide) [some (.ref v0), some (.int 0), none, none, none] rfl ?_
  refine ok_iconst 0 dX10_errorOfReads_2 (by decide) ?_
  refine ok_istore_n 2 dX10_errorOfReads_3 rfl (by decide) [some (.ref v0), some (.int 0), some (.int 0), none, none] rfl ?_
  exact h

set_option maxRecDepth 100000 in
set_option maxHeartbeats 4000000 in
theorem sX10_errorOfReads_4 {G : o_G} {d : Nat} {P : o_P} {i : o_I} {r : o_R} (v0 : Nat) (v1 : Int32) (v2 : Int32)
    (h : o_O G v0 10 ∧ o_Y G (r v0 1) 1 ∧ vp_in 1 (o_len G (r v0 1)) ∧ (((i (r v0 1) (1 : Int32).toNatClampNeg) ≤ v1 → P (some (.int (-1))) i r) ∧ (¬ (i (r v0 1) (1 : Int32).toNatClampNeg) ≤ v1 → ((v2 = 8 → P (some (.int v1)) i r) ∧ (¬ v2 = 8 → SpI G d mX10_look [.ref v0, .int 1, .int v1] (fun x6 i6 => ((x6 = 64 → SpI G d mX10_behindName [.ref v0, .int 1, .int (v1 + 1)] (fun x8 i8 => ((0 ≤ x8 → Ok G (d + 1) mX10_errorOfReads P 54 [some (.ref v0), some (.int x8), some (.int v2), some (.int 0), none] [] i8 r) ∧ (¬ 0 ≤ x8 → P (some (.int (x8 + 1000))) i8 r))) i6 r) ∧ (¬ x6 = 64 → P (some (.int v1)) i6 r))) i r))))) :
    Ok G (d + 1) mX10_errorOfReads P 4 [some (.ref v0), some (.int v1), some (.int v2), none, none] [] i r := by
  refine ok_iload_n 1 dX10_errorOfReads_4 rfl rfl ?_
  refine ok_aload_n 0 dX10_errorOfReads_5 rfl rfl ?_
  obtain ⟨c1, h⟩ := h
  refine ok_getr 10 1 dX10_errorOfReads_6 f10_13 rfl c1 ?_
  refine ok_iconst 1 dX10_errorOfReads_9 (by decide) ?_
  obtain ⟨c2, h⟩ := h
  obtain ⟨c3, h⟩ := h
  refine ok_iald dX10_errorOfReads_10 c2 c3 ?_
  refine ok_ic_ge 193 dX10_errorOfReads_11 (by decide) (fun z4 => ?_) (fun z4 => ?_)
  · replace h := h.1 z4
    refine ok_iconst (-1) dX10_errorOfReads_193 (by decide) ?_
    exact ok_iret .int dX10_errorOfReads_194 rfl rfl h
  · replace h := h.2 z4
    refine ok_iload_n 2 dX10_errorOfReads_14 rfl rfl ?_
    refine ok_bipush 8 dX10_errorOfReads_15 (by decide) ?_
    refine ok_ic_eq 31 dX10_errorOfReads_17 (by decide) (fun z5 => ?_) (fun z5 => ?_)
    · replace h := h.1 z5
      refine ok_iload_n 1 dX10_errorOfReads_31 rfl rfl ?_
      exact ok_iret .int dX10_errorOfReads_32 rfl rfl h
    · replace h := h.2 z5
      refine ok_aload_n 0 dX10_errorOfReads_20 rfl rfl ?_
      refine ok_iconst 1 dX10_errorOfReads_21 (by decide) ?_
      refine ok_iload_n 1 dX10_errorOfReads_22 rfl rfl ?_
      refine ok_cVi (rest := []) o_rc 10 [.int 1, .int v1] dX10_errorOfReads_23 k10_93 c1 rfl rfl (Nat.le_of_ble_eq_true rfl) h (fun x6 i6 h => ?_)
      refine ok_bipush 64 dX10_errorOfReads_26 (by decide) ?_
      refine ok_ic_eq 33 dX10_errorOfReads_28 (by decide) (fun z7 => ?_) (fun z7 => ?_)
      · replace h := h.1 z7
        refine ok_aload_n 0 dX10_errorOfReads_33 rfl rfl ?_
        refine ok_iconst 1 dX10_errorOfReads_34 (by decide) ?_
        refine ok_iload_n 1 dX10_errorOfReads_35 rfl rfl ?_
        refine ok_iconst 1 dX10_errorOfReads_36 (by decide) ?_
        refine ok_iadd dX10_errorOfReads_37 ?_
        refine ok_cVi (rest := []) o_rc 10 [.int 1, .int (v1 + 1)] dX10_errorOfReads_38 k10_101 c1 rfl rfl (Nat.le_of_ble_eq_true rfl) h (fun x8 i8 h => ?_)
        refine ok_istore_n 1 dX10_errorOfReads_41 rfl (by decide) [some (.ref v0), some (.int x8), some (.int v2), none, none] rfl ?_
        refine ok_iload_n 1 dX10_errorOfReads_42 rfl rfl ?_
        refine ok_if_ge 52 dX10_errorOfReads_43 (by decide) (fun z9 => ?_) (fun z9 => ?_)
        · replace h := h.1 z9
          refine ok_iconst 0 dX10_errorOfReads_52 (by decide) ?_
          refine ok_istore_n 3 dX10_errorOfReads_53 rfl (by decide) [some (.ref v0), some (.int x8), some (.int v2), some (.int 0), none] rfl ?_
          exact h
        · replace h := h.2 z9
          refine ok_iload_n 1 dX10_errorOfReads_46 rfl rfl ?_
          refine ok_sipush 1000 dX10_errorOfReads_47 (by decide) ?_
          refine ok_iadd dX10_errorOfReads_50 ?_
          exact ok_iret .int dX10_errorOfReads_51 rfl rfl h
      · replace h := h.2 z7
        refine ok_iload_n 1 dX10_errorOfReads_31 rfl rfl ?_
        exact ok_iret .int dX10_errorOfReads_32 rfl rfl h

set_option maxRecDepth 100000 in
set_option maxHeartbeats 4000000 in
theorem sX10_errorOfReads_54 {G : o_G} {d : Nat} {P : o_P} {i : o_I} {r : o_R} (v0 : Nat) (v1 : Int32) (v2 : Int32) (v3 : Int32)
    (h : ((16 ≤ v3 → Ok G (d + 1) mX10_errorOfReads P 80 [some (.ref v0), some (.int v1), some (.int v2), some (.int v3), none] [] i r) ∧ (¬ 16 ≤ v3 → o_O G v0 10 ∧ SpI G d mX10_look [.ref v0, .int 1, .int (v1 + v3)] (fun x3 i3 => SpI G d mX10_codeOf [.int x3] (fun x4 i4 => ((x4 < 0 → Ok G (d + 1) mX10_errorOfReads P 80 [some (.ref v0), some (.int v1), some (.int v2), some (.int v3), none] [] i4 r) ∧ (¬ x4 < 0 → ∀ x6 : Int32, x6 = v3 + 1 → Ok G (d + 1) mX10_errorOfReads P 54 [some (.ref v0), some (.int v1), some (.int v2), some (.int x6), none] [] i4 r))) i3 r) i r))) :
    Ok G (d + 1) mX10_errorOfReads P 54 [some (.ref v0), some (.int v1), some (.int v2), some (.int v3), none] [] i r := by
  refine ok_iload_n 3 dX10_errorOfReads_54 rfl rfl ?_
  refine ok_bipush 16 dX10_errorOfReads_55 (by decide) ?_
  refine ok_ic_ge 80 dX10_errorOfReads_57 (by decide) (fun z1 => ?_) (fun z1 => ?_)
  · replace h := h.1 z1
    exact h
  · replace h := h.2 z1
    refine ok_aload_n 0 dX10_errorOfReads_60 rfl rfl ?_
    refine ok_iconst 1 dX10_errorOfReads_61 (by decide) ?_
    refine ok_iload_n 1 dX10_errorOfReads_62 rfl rfl ?_
    refine ok_iload_n 3 dX10_errorOfReads_63 rfl rfl ?_
    refine ok_iadd dX10_errorOfReads_64 ?_
    obtain ⟨c2, h⟩ := h
    refine ok_cVi (rest := []) o_rc 10 [.int 1, .int (v1 + v3)] dX10_errorOfReads_65 k10_93 c2 rfl rfl (Nat.le_of_ble_eq_true rfl) h (fun x3 i3 h => ?_)
    refine ok_cSi (rest := []) o_rc [.int x3] dX10_errorOfReads_68 k10_105 rfl rfl (Nat.le_of_ble_eq_true rfl) h (fun x4 i4 h => ?_)
    refine ok_if_lt 80 dX10_errorOfReads_71 (by decide) (fun z5 => ?_) (fun z5 => ?_)
    · replace h := h.1 z5
      exact h
    · replace h := h.2 z5
      refine ok_eqi (v3 + 1) (fun x6 ex6 => ?_)
      replace h := h x6 ex6
      refine ok_iinc 1 x6 dX10_errorOfReads_74 rfl (by decide) ex6 (by decide) [some (.ref v0), some (.int v1), some (.int v2), some (.int x6), none] rfl ?_
      refine ok_goto 54 dX10_errorOfReads_77 (by decide) ?_
      exact h

set_option maxRecDepth 100000 in
set_option maxHeartbeats 4000000 in
theorem sX10_errorOfReads_80 {G : o_G} {d : Nat} {P : o_P} {i : o_I} {r : o_R} (v0 : Nat) (v1 : Int32) (v2 : Int32) (v3 : Int32)
    (h : ∀ x1 : Int32, x1 = (v1 + v3) → ((v3 < 4 → P (some (.int x1)) i r) ∧ (¬ v3 < 4 → o_O G v0 10 ∧ SpI G d mX10_look [.ref v0, .int 1, .int x1] (fun x4 i4 => ((x4 = 10 → SpI G d mX10_look [.ref v0, .int 1, .int (x1 + 1)] (fun x6 i6 => ((x6 = 43 → SpI G d mX10_look [.ref v0, .int 1, .int (x1 + 2)] (fun x8 i8 => ((x8 = 10 → ∀ x10 : Int32, x10 = x1 + 3 → Ok G (d + 1) mX10_errorOfReads P 142 [some (.ref v0), some (.int x10), some (.int v2), some (.int v3), some (.int 0)] [] i8 r) ∧ (¬ x8 = 10 → P (some (.int (x1 + 2))) i8 r))) i6 r) ∧ (¬ x6 = 43 → P (some (.int (x1 + 1))) i6 r))) i4 r) ∧ (¬ x4 = 10 → P (some (.int x1)) i4 r))) i r))) :
    Ok G (d + 1) mX10_errorOfReads P 80 [some (.ref v0), some (.int v1), some (.int v2), some (.int v3), none] [] i r := by
  refine ok_iload_n 1 dX10_errorOfReads_80 rfl rfl ?_
  refine ok_iload_n 3 dX10_errorOfReads_81 rfl rfl ?_
  refine ok_iadd dX10_errorOfReads_82 ?_
  refine ok_topi (fun x1 ex1 => ?_)
  replace h := h x1 ex1
  refine ok_istore_n 1 dX10_errorOfReads_83 rfl (by decide) [some (.ref v0), some (.int x1), some (.int v2), some (.int v3), none] rfl ?_
  refine ok_iload_n 3 dX10_errorOfReads_84 rfl rfl ?_
  refine ok_iconst 4 dX10_errorOfReads_85 (by decide) ?_
  refine ok_ic_lt 100 dX10_errorOfReads_86 (by decide) (fun z2 => ?_) (fun z2 => ?_)
  · replace h := h.1 z2
    refine ok_iload_n 1 dX10_errorOfReads_100 rfl rfl ?_
    exact ok_iret .int dX10_errorOfReads_101 rfl rfl h
  · replace h := h.2 z2
    refine ok_aload_n 0 dX10_errorOfReads_89 rfl rfl ?_
    refine ok_iconst 1 dX10_errorOfReads_90 (by decide) ?_
    refine ok_iload_n 1 dX10_errorOfReads_91 rfl rfl ?_
    obtain ⟨c3, h⟩ := h
    refine ok_cVi (rest := []) o_rc 10 [.int 1, .int x1] dX10_errorOfReads_92 k10_93 c3 rfl rfl (Nat.le_of_ble_eq_true rfl) h (fun x4 i4 h => ?_)
    refine ok_bipush 10 dX10_errorOfReads_95 (by decide) ?_
    refine ok_ic_eq 102 dX10_errorOfReads_97 (by decide) (fun z5 => ?_) (fun z5 => ?_)
    · replace h := h.1 z5
      refine ok_aload_n 0 dX10_errorOfReads_102 rfl rfl ?_
      refine ok_iconst 1 dX10_errorOfReads_103 (by decide) ?_
      refine ok_iload_n 1 dX10_errorOfReads_104 rfl rfl ?_
      refine ok_iconst 1 dX10_errorOfReads_105 (by decide) ?_
      refine ok_iadd dX10_errorOfReads_106 ?_
      refine ok_cVi (rest := []) o_rc 10 [.int 1, .int (x1 + 1)] dX10_errorOfReads_107 k10_93 c3 rfl rfl (Nat.le_of_ble_eq_true rfl) h (fun x6 i6 h => ?_)
      refine ok_bipush 43 dX10_errorOfReads_110 (by decide) ?_
      refine ok_ic_eq 119 dX10_errorOfReads_112 (by decide) (fun z7 => ?_) (fun z7 => ?_)
      · replace h := h.1 z7
        refine ok_aload_n 0 dX10_errorOfReads_119 rfl rfl ?_
        refine ok_iconst 1 dX10_errorOfReads_120 (by decide) ?_
        refine ok_iload_n 1 dX10_errorOfReads_121 rfl rfl ?_
        refine ok_iconst 2 dX10_errorOfReads_122 (by decide) ?_
        refine ok_iadd dX10_errorOfReads_123 ?_
        refine ok_cVi (rest := []) o_rc 10 [.int 1, .int (x1 + 2)] dX10_errorOfReads_124 k10_93 c3 rfl rfl (Nat.le_of_ble_eq_true rfl) h (fun x8 i8 h => ?_)
        refine ok_bipush 10 dX10_errorOfReads_127 (by decide) ?_
        refine ok_ic_eq 136 dX10_errorOfReads_129 (by decide) (fun z9 => ?_) (fun z9 => ?_)
        · replace h := h.1 z9
          refine ok_eqi (x1 + 3) (fun x10 ex10 => ?_)
          replace h := h x10 ex10
          refine ok_iinc 3 x10 dX10_errorOfReads_136 rfl (by decide) ex10 (by decide) [some (.ref v0), some (.int x10), some (.int v2), some (.int v3), none] rfl ?_
          refine ok_iconst 0 dX10_errorOfReads_139 (by decide) ?_
          refine ok_istore dX10_errorOfReads_140 (by decide) [some (.ref v0), some (.int x10), some (.int v2), some (.int v3), some (.int 0)] rfl ?_
          exact h
        · replace h := h.2 z9
          refine ok_iload_n 1 dX10_errorOfReads_132 rfl rfl ?_
          refine ok_iconst 2 dX10_errorOfReads_133 (by decide) ?_
          refine ok_iadd dX10_errorOfReads_134 ?_
          exact ok_iret .int dX10_errorOfReads_135 rfl rfl h
      · replace h := h.2 z7
        refine ok_iload_n 1 dX10_errorOfReads_115 rfl rfl ?_
        refine ok_iconst 1 dX10_errorOfReads_116 (by decide) ?_
        refine ok_iadd dX10_errorOfReads_117 ?_
        exact ok_iret .int dX10_errorOfReads_118 rfl rfl h
    · replace h := h.2 z5
      refine ok_iload_n 1 dX10_errorOfReads_100 rfl rfl ?_
      exact ok_iret .int dX10_errorOfReads_101 rfl rfl h

set_option maxRecDepth 100000 in
set_option maxHeartbeats 4000000 in
theorem sX10_errorOfReads_142 {G : o_G} {d : Nat} {P : o_P} {i : o_I} {r : o_R} (v0 : Nat) (v1 : Int32) (v2 : Int32) (v3 : Int32) (v4 : Int32)
    (h : ((v3 ≤ v4 → o_O G v0 10 ∧ SpI G d mX10_look [.ref v0, .int 1, .int v1] (fun x3 i3 => ((x3 = 10 → ∀ x5 : Int32, x5 = v1 + 1 → ∀ x6 : Int32, x6 = v2 + 1 → Ok G (d + 1) mX10_errorOfReads P 4 [some (.ref v0), some (.int x5), some (.int x6), none, none] [] i3 r) ∧ (¬ x3 = 10 → P (some (.int v1)) i3 r))) i r) ∧ (¬ v3 ≤ v4 → o_O G v0 10 ∧ SpI G d mX10_look [.ref v0, .int 1, .int v1] (fun x8 i8 => SpI G d mX10_visible [.int x8] (fun x9 i9 => ((¬ x9 = 0 → ∀ x11 : Int32, x11 = v1 + 1 → ∀ x12 : Int32, x12 = v4 + 1 → Ok G (d + 1) mX10_errorOfReads P 142 [some (.ref v0), some (.int x11), some (.int v2), some (.int v3), some (.int x12)] [] i9 r) ∧ (x9 = 0 → P (some (.int v1)) i9 r))) i8 r) i r))) :
    Ok G (d + 1) mX10_errorOfReads P 142 [some (.ref v0), some (.int v1), some (.int v2), some (.int v3), some (.int v4)] [] i r := by
  refine ok_iload dX10_errorOfReads_142 rfl ?_
  refine ok_iload_n 3 dX10_errorOfReads_144 rfl rfl ?_
  refine ok_ic_ge 171 dX10_errorOfReads_145 (by decide) (fun z1 => ?_) (fun z1 => ?_)
  · replace h := h.1 z1
    refine ok_aload_n 0 dX10_errorOfReads_171 rfl rfl ?_
    refine ok_iconst 1 dX10_errorOfReads_172 (by decide) ?_
    refine ok_iload_n 1 dX10_errorOfReads_173 rfl rfl ?_
    obtain ⟨c2, h⟩ := h
    refine ok_cVi (rest := []) o_rc 10 [.int 1, .int v1] dX10_errorOfReads_174 k10_93 c2 rfl rfl (Nat.le_of_ble_eq_true rfl) h (fun x3 i3 h => ?_)
    refine ok_bipush 10 dX10_errorOfReads_177 (by decide) ?_
    refine ok_ic_eq 184 dX10_errorOfReads_179 (by decide) (fun z4 => ?_) (fun z4 => ?_)
    · replace h := h.1 z4
      refine ok_eqi (v1 + 1) (fun x5 ex5 => ?_)
      replace h := h x5 ex5
      refine ok_iinc 1 x5 dX10_errorOfReads_184 rfl (by decide) ex5 (by decide) [some (.ref v0), some (.int x5), some (.int v2), some (.int v3), some (.int v4)] rfl ?_
      refine ok_eqi (v2 + 1) (fun x6 ex6 => ?_)
      replace h := h x6 ex6
      refine ok_iinc 1 x6 dX10_errorOfReads_187 rfl (by decide) ex6 (by decide) [some (.ref v0), some (.int x5), some (.int x6), some (.int v3), some (.int v4)] rfl ?_
      refine ok_goto 4 dX10_errorOfReads_190 (by decide) ?_
      refine ok_wk [some (.ref v0), some (.int x5), some (.int x6), none, none] ⟨rfl, rfl, rfl, trivial⟩ ?_
      exact h
    · replace h := h.2 z4
      refine ok_iload_n 1 dX10_errorOfReads_182 rfl rfl ?_
      exact ok_iret .int dX10_errorOfReads_183 rfl rfl h
  · replace h := h.2 z1
    refine ok_aload_n 0 dX10_errorOfReads_148 rfl rfl ?_
    refine ok_iconst 1 dX10_errorOfReads_149 (by decide) ?_
    refine ok_iload_n 1 dX10_errorOfReads_150 rfl rfl ?_
    obtain ⟨c7, h⟩ := h
    refine ok_cVi (rest := []) o_rc 10 [.int 1, .int v1] dX10_errorOfReads_151 k10_93 c7 rfl rfl (Nat.le_of_ble_eq_true rfl) h (fun x8 i8 h => ?_)
    refine ok_cSi (rest := []) o_rc [.int x8] dX10_errorOfReads_154 k10_97 rfl rfl (Nat.le_of_ble_eq_true rfl) h (fun x9 i9 h => ?_)
    refine ok_if_ne 162 dX10_errorOfReads_157 (by decide) (fun z10 => ?_) (fun z10 => ?_)
    · replace h := h.1 z10
      refine ok_eqi (v1 + 1) (fun x11 ex11 => ?_)
      replace h := h x11 ex11
      refine ok_iinc 1 x11 dX10_errorOfReads_162 rfl (by decide) ex11 (by decide) [some (.ref v0), some (.int x11), some (.int v2), some (.int v3), some (.int v4)] rfl ?_
      refine ok_eqi (v4 + 1) (fun x12 ex12 => ?_)
      replace h := h x12 ex12
      refine ok_iinc 1 x12 dX10_errorOfReads_165 rfl (by decide) ex12 (by decide) [some (.ref v0), some (.int x11), some (.int v2), some (.int v3), some (.int x12)] rfl ?_
      refine ok_goto 142 dX10_errorOfReads_168 (by decide) ?_
      exact h
    · replace h := h.2 z10
      refine ok_iload_n 1 dX10_errorOfReads_160 rfl rfl ?_
      exact ok_iret .int dX10_errorOfReads_161 rfl rfl h

set_option maxRecDepth 100000 in
set_option maxHeartbeats 4000000 in
theorem sX10_errorOfReference_0 {G : o_G} {d : Nat} {P : o_P} {i : o_I} {r : o_R} (v0 : Nat)
    (h : o_O G v0 10 ∧ SpI G d mX10_look [.ref v0, .int 0, .int 0] (fun x2 i2 => ((x2 = 62 → SpI G d mX10_behindName [.ref v0, .int 0, .int 1] (fun x4 i4 => ((0 ≤ x4 → Ok G (d + 1) mX10_errorOfReference P 34 [some (.ref v0), some (.int x4), some (.int 0), some (.int 1), none] [] i4 r) ∧ (¬ 0 ≤ x4 → P (some (.int (x4 + 1000))) i4 r))) i2 r) ∧ (¬ x2 = 62 → P (some (.int 0)) i2 r))) i r) :
    Ok G (d + 1) mX10_errorOfReference P 0 [some (.ref v0), none, none, none, none] [] i r := by
  refine ok_aload_n 0 dX10_errorOfReference_0 rfl rfl ?_
  refine ok_iconst 0 dX10_errorOfReference_1 (by decide) ?_
  refine ok_iconst 0 dX10_errorOfReference_2 (by decide) ?_
  obtain ⟨c1, h⟩ := h
  refine ok_cVi (rest := []) o_rc 10 [.int 0, .int 0] dX10_errorOfReference_3 k10_93 c1 rfl rfl (Nat.le_of_ble_eq_true rfl) h (fun x2 i2 h => ?_)
  refine ok_bipush 62 dX10_errorOfReference_6 (by decide) ?_
  refine ok_ic_eq 13 dX10_errorOfReference_8 (by decide) (fun z3 => ?_) (fun z3 => ?_)
  · replace h := h.1 z3
    refine ok_aload_n 0 dX10_errorOfReference_13 rfl rfl ?_
    refine ok_iconst 0 dX10_errorOfReference_14 (by decide) ?_
    refine ok_iconst 1 dX10_errorOfReference_15 (by decide) ?_
    refine ok_cVi (rest := []) o_rc 10 [.int 0, .int 1] dX10_errorOfReference_16 k10_101 c1 rfl rfl (Nat.le_of_ble_eq_true rfl) h (fun x4 i4 h => ?_)
    refine ok_istore_n 1 dX10_errorOfReference_19 rfl (by decide) [some (.ref v0), some (.int x4), none, none, none] rfl ?_
    refine ok_iload_n 1 dX10_errorOfReference_20 rfl rfl ?_
    refine ok_if_ge 30 dX10_errorOfReference_21 (by decide) (fun z5 => ?_) (fun z5 => ?_)
    · replace h := h.1 z5
      refine ok_iconst 0 dX10_errorOfReference_30 (by decide) ?_
      refine ok_istore_n 2 dX10_errorOfReference_31 rfl (by decide) [some (.ref v0), some (.int x4), some (.int 0), none, none] rfl ?_
      refine ok_iconst 1 dX10_errorOfReference_32 (by decide) ?_
      refine ok_istore_n 3 dX10_errorOfReference_33 rfl (by decide) [some (.ref v0), some (.int x4), some (.int 0), some (.int 1), none] rfl ?_
      exact h
    · replace h := h.2 z5
      refine ok_iload_n 1 dX10_errorOfReference_24 rfl rfl ?_
      refine ok_sipush 1000 dX10_errorOfReference_25 (by decide) ?_
      refine ok_iadd dX10_errorOfReference_28 ?_
      exact ok_iret .int dX10_errorOfReference_29 rfl rfl h
  · replace h := h.2 z3
    refine ok_iconst 0 dX10_errorOfReference_11 (by decide) ?_
    exact ok_iret .int dX10_errorOfReference_12 rfl rfl h

set_option maxRecDepth 100000 in
set_option maxHeartbeats 4000000 in
theorem sX10_errorOfReference_34 {G : o_G} {d : Nat} {P : o_P} {i : o_I} {r : o_R} (v0 : Nat) (v1 : Int32) (v2 : Int32) (v3 : Int32)
    (h : ((v3 = 0 → P (some (.int (-1))) i r) ∧ (¬ v3 = 0 → Ok G (d + 1) mX10_errorOfReference P 41 [some (.ref v0), some (.int v1), some (.int v2), none, some (.int 0)] [] i r))) :
    Ok G (d + 1) mX10_errorOfReference P 34 [some (.ref v0), some (.int v1), some (.int v2), some (.int v3), none] [] i r := by
  refine ok_iload_n 3 dX10_errorOfReference_34 rfl rfl ?_
  refine ok_if_eq 114 dX10_errorOfReference_35 (by decide) (fun z1 => ?_) (fun z1 => ?_)
  · replace h := h.1 z1
    refine ok_iconst (-1) dX10_errorOfReference_114 (by decide) ?_
    exact ok_iret .int dX10_errorOfReference_115 rfl rfl h
  · replace h := h.2 z1
    refine ok_iconst 0 dX10_errorOfReference_38 (by decide) ?_
    refine ok_istore dX10_errorOfReference_39 (by decide) [some (.ref v0), some (.int v1), some (.int v2), some (.int v3), some (.int 0)] rfl ?_
    refine ok_wk [some (.ref v0), some (.int v1), some (.int v2), none, some (.int 0)] ⟨rfl, rfl, rfl, rfl, trivial⟩ ?_
    exact h

set_option maxRecDepth 100000 in
set_option maxHeartbeats 4000000 in
theorem sX10_errorOfReference_41 {G : o_G} {d : Nat} {P : o_P} {i : o_I} {r : o_R} (v0 : Nat) (v1 : Int32) (v2 : Int32) (v4 : Int32)
    (h : ((48 ≤ v2 → Ok G (d + 1) mX10_errorOfReference P 74 [some (.ref v0), some (.int v1), some (.int v2), none, some (.int v4)] [] i r) ∧ (¬ 48 ≤ v2 → o_O G v0 10 ∧ SpI G d mX10_look [.ref v0, .int 0, .int v1] (fun x3 i3 => SpI G d mX10_codeOf [.int x3] (fun x4 i4 => SpI G d mX10_isBase [.int x4] (fun x5 i5 => ((x5 = 0 → Ok G (d + 1) mX10_errorOfReference P 74 [some (.ref v0), some (.int v1), some (.int v2), none, some (.int v4)] [] i5 r) ∧ (¬ x5 = 0 → ∀ x7 : Int32, x7 = v1 + 1 → ∀ x8 : Int32, x8 = v4 + 1 → ∀ x9 : Int32, x9 = v2 + 1 → Ok G (d + 1) mX10_errorOfReference P 41 [some (.ref v0), some (.int x7), some (.int x9), none, some (.int x8)] [] i5 r))) i4 r) i3 r) i r))) :
    Ok G (d + 1) mX10_errorOfReference P 41 [some (.ref v0), some (.int v1), some (.int v2), none, some (.int v4)] [] i r := by
  refine ok_iload_n 2 dX10_errorOfReference_41 rfl rfl ?_
  refine ok_bipush 48 dX10_errorOfReference_42 (by decide) ?_
  refine ok_ic_ge 74 dX10_errorOfReference_44 (by decide) (fun z1 => ?_) (fun z1 => ?_)
  · replace h := h.1 z1
    exact h
  · replace h := h.2 z1
    refine ok_aload_n 0 dX10_errorOfReference_47 rfl rfl ?_
    refine ok_iconst 0 dX10_errorOfReference_48 (by decide) ?_
    refine ok_iload_n 1 dX10_errorOfReference_49 rfl rfl ?_
    obtain ⟨c2, h⟩ := h
    refine ok_cVi (rest := []) o_rc 10 [.int 0, .int v1] dX10_errorOfReference_50 k10_93 c2 rfl rfl (Nat.le_of_ble_eq_true rfl) h (fun x3 i3 h => ?_)
    refine ok_cSi (rest := []) o_rc [.int x3] dX10_errorOfReference_53 k10_105 rfl rfl (Nat.le_of_ble_eq_true rfl) h (fun x4 i4 h => ?_)
    refine ok_cSi (rest := []) o_rc [.int x4] dX10_errorOfReference_56 k10_109 rfl rfl (Nat.le_of_ble_eq_true rfl) h (fun x5 i5 h => ?_)
    refine ok_if_eq 74 dX10_errorOfReference_59 (by decide) (fun z6 => ?_) (fun z6 => ?_)
    · replace h := h.1 z6
      exact h
    · replace h := h.2 z6
      refine ok_eqi (v1 + 1) (fun x7 ex7 => ?_)
      replace h := h x7 ex7
      refine ok_iinc 1 x7 dX10_errorOfReference_62 rfl (by decide) ex7 (by decide) [some (.ref v0), some (.int x7), some (.int v2), none, some (.int v4)] rfl ?_
      refine ok_eqi (v4 + 1) (fun x8 ex8 => ?_)
      replace h := h x8 ex8
      refine ok_iinc 1 x8 dX10_errorOfReference_65 rfl (by decide) ex8 (by decide) [some (.ref v0), some (.int x7), some (.int v2), none, some (.int x8)] rfl ?_
      refine ok_eqi (v2 + 1) (fun x9 ex9 => ?_)
      replace h := h x9 ex9
      refine ok_iinc 1 x9 dX10_errorOfReference_68 rfl (by decide) ex9 (by decide) [some (.ref v0), some (.int x7), some (.int x9), none, some (.int x8)] rfl ?_
      refine ok_goto 41 dX10_errorOfReference_71 (by decide) ?_
      exact h

set_option maxRecDepth 100000 in
set_option maxHeartbeats 4000000 in
theorem sX10_errorOfReference_74 {G : o_G} {d : Nat} {P : o_P} {i : o_I} {r : o_R} (v0 : Nat) (v1 : Int32) (v2 : Int32) (v4 : Int32)
    (h : ((v4 = 0 → P (some (.int v1)) i r) ∧ (¬ v4 = 0 → o_O G v0 10 ∧ SpI G d mX10_look [.ref v0, .int 0, .int v1] (fun x3 i3 => ((x3 = 10 → ∀ x5 : Int32, x5 = v1 + 1 → o_Y G (r v0 1) 1 ∧ vp_in 0 (o_len G (r v0 1)) ∧ (∀ x9 : Int32, x9 = (if (i3 (r v0 1) (0 : Int32).toNatClampNeg) ≤ x5 then 0 else 1) → Ok G (d + 1) mX10_errorOfReference P 34 [some (.ref v0), some (.int x5), some (.int v2), some (.int x9), none] [] i3 r)) ∧ (¬ x3 = 10 → P (some (.int v1)) i3 r))) i r))) :
    Ok G (d + 1) mX10_errorOfReference P 74 [some (.ref v0), some (.int v1), some (.int v2), none, some (.int v4)] [] i r := by
  refine ok_iload dX10_errorOfReference_74 rfl ?_
  refine ok_if_eq 90 dX10_errorOfReference_76 (by decide) (fun z1 => ?_) (fun z1 => ?_)
  · replace h := h.1 z1
    refine ok_iload_n 1 dX10_errorOfReference_90 rfl rfl ?_
    exact ok_iret .int dX10_errorOfReference_91 rfl rfl h
  · replace h := h.2 z1
    refine ok_aload_n 0 dX10_errorOfReference_79 rfl rfl ?_
    refine ok_iconst 0 dX10_errorOfReference_80 (by decide) ?_
    refine ok_iload_n 1 dX10_errorOfReference_81 rfl rfl ?_
    obtain ⟨c2, h⟩ := h
    refine ok_cVi (rest := []) o_rc 10 [.int 0, .int v1] dX10_errorOfReference_82 k10_93 c2 rfl rfl (Nat.le_of_ble_eq_true rfl) h (fun x3 i3 h => ?_)
    refine ok_bipush 10 dX10_errorOfReference_85 (by decide) ?_
    refine ok_ic_eq 92 dX10_errorOfReference_87 (by decide) (fun z4 => ?_) (fun z4 => ?_)
    · replace h := h.1 z4
      refine ok_eqi (v1 + 1) (fun x5 ex5 => ?_)
      replace h := h x5 ex5
      refine ok_iinc 1 x5 dX10_errorOfReference_92 rfl (by decide) ex5 (by decide) [some (.ref v0), some (.int x5), some (.int v2), none, some (.int v4)] rfl ?_
      refine ok_iload_n 1 dX10_errorOfReference_95 rfl rfl ?_
      refine ok_aload_n 0 dX10_errorOfReference_96 rfl rfl ?_
      refine ok_getr 10 1 dX10_errorOfReference_97 f10_13 rfl c2 ?_
      refine ok_iconst 0 dX10_errorOfReference_100 (by decide) ?_
      obtain ⟨c6, h⟩ := h
      obtain ⟨c7, h⟩ := h
      refine ok_iald dX10_errorOfReference_101 c6 c7 ?_
      have k10 : ∀ x9 : Int32, x9 = (if (i3 (r v0 1) (0 : Int32).toNatClampNeg) ≤ x5 then 0 else 1) → Ok G (d + 1) mX10_errorOfReference P 110 [some (.ref v0), some (.int x5), some (.int v2), none, none] [.int x9] i3 r := by
        intro x9 ex9
        replace h := h x9 ex9
        refine ok_istore_n 3 dX10_errorOfReference_110 rfl (by decide) [some (.ref v0), some (.int x5), some (.int v2), some (.int x9), none] rfl ?_
        refine ok_goto 34 dX10_errorOfReference_111 (by decide) ?_
        exact h
      clear h
      refine ok_ic_ge 109 dX10_errorOfReference_102 (by decide) (fun z8 => ?_) (fun z8 => ?_)
      · refine ok_iconst 0 dX10_errorOfReference_109 (by decide) ?_
        refine ok_wk [some (.ref v0), some (.int x5), some (.int v2), none, none] ⟨rfl, rfl, rfl, trivial⟩ ?_
        exact k10 (0) (by simp only [if_pos z8])
      · refine ok_iconst 1 dX10_errorOfReference_105 (by decide) ?_
        refine ok_goto 110 dX10_errorOfReference_106 (by decide) ?_
        refine ok_wk [some (.ref v0), some (.int x5), some (.int v2), none, none] ⟨rfl, rfl, rfl, trivial⟩ ?_
        exact k10 (1) (by simp only [if_neg z8])
    · replace h := h.2 z4
      refine ok_iload_n 1 dX10_errorOfReference_90 rfl rfl ?_
      exact ok_iret .int dX10_errorOfReference_91 rfl rfl h

set_option maxRecDepth 100000 in
set_option maxHeartbeats 4000000 in
theorem sX10_firstOf_0 {G : o_G} {d : Nat} {P : o_P} {i : o_I} {r : o_R} (v0 : Int32)
    (h : (∀ x5 : Int32, x5 = (if v0 = 0 then 0 else (if v0 = 1 then 0 else (if v0 = 3 then 0 else (if v0 = 5 then 2 else 1)))) → P (some (.int x5)) i r)) :
    Ok G (d + 1) mX10_firstOf P 0 [some (.int v0)] [] i r := by
  refine ok_iload_n 0 dX10_firstOf_0 rfl rfl ?_
  have k6 : ∀ x5 : Int32, x5 = (if v0 = 0 then 0 else (if v0 = 1 then 0 else (if v0 = 3 then 0 else (if v0 = 5 then 2 else 1)))) → Ok G (d + 1) mX10_firstOf P 28 [none] [.int x5] i r := by
    intro x5 ex5
    replace h := h x5 ex5
    exact ok_iret .int dX10_firstOf_28 rfl rfl h
  clear h
  refine ok_if_eq 14 dX10_firstOf_1 (by decide) (fun z1 => ?_) (fun z1 => ?_)
  · refine ok_iconst 0 dX10_firstOf_14 (by decide) ?_
    refine ok_goto 28 dX10_firstOf_15 (by decide) ?_
    refine ok_wk [none] trivial ?_
    exact k6 (0) (by simp only [if_pos z1])
  · refine ok_iload_n 0 dX10_firstOf_4 rfl rfl ?_
    refine ok_iconst 1 dX10_firstOf_5 (by decide) ?_
    refine ok_ic_eq 14 dX10_firstOf_6 (by decide) (fun z2 => ?_) (fun z2 => ?_)
    · refine ok_iconst 0 dX10_firstOf_14 (by decide) ?_
      refine ok_goto 28 dX10_firstOf_15 (by decide) ?_
      refine ok_wk [none] trivial ?_
      exact k6 (0) (by simp only [if_neg z1, if_pos z2])
    · refine ok_iload_n 0 dX10_firstOf_9 rfl rfl ?_
      refine ok_iconst 3 dX10_firstOf_10 (by decide) ?_
      refine ok_ic_ne 18 dX10_firstOf_11 (by decide) (fun z3 => ?_) (fun z3 => ?_)
      · refine ok_iload_n 0 dX10_firstOf_18 rfl rfl ?_
        refine ok_iconst 5 dX10_firstOf_19 (by decide) ?_
        refine ok_ic_ne 27 dX10_firstOf_20 (by decide) (fun z4 => ?_) (fun z4 => ?_)
        · refine ok_iconst 1 dX10_firstOf_27 (by decide) ?_
          refine ok_wk [none] trivial ?_
          exact k6 (1) (by simp only [if_neg z1, if_neg z2, if_neg z3, if_neg z4])
        · refine ok_iconst 2 dX10_firstOf_23 (by decide) ?_
          refine ok_goto 28 dX10_firstOf_24 (by decide) ?_
          refine ok_wk [none] trivial ?_
          exact k6 (2) (by simp only [if_neg z1, if_neg z2, if_neg z3, if_pos z4])
      · refine ok_iconst 0 dX10_firstOf_14 (by decide) ?_
        refine ok_goto 28 dX10_firstOf_15 (by decide) ?_
        refine ok_wk [none] trivial ?_
        exact k6 (0) (by simp only [if_neg z1, if_neg z2, if_pos z3])

set_option maxRecDepth 100000 in
set_option maxHeartbeats 4000000 in
theorem sX10_gainOf_0 {G : o_G} {d : Nat} {P : o_P} {i : o_I} {r : o_R} (v0 : Int32) (v1 : Int32)
    (h : (∀ x3 : Int32, x3 = (if v0 = 1 then (10 + v1) else (if v0 = 2 then (20 + v1) else (40 + v1))) → P (some (.int x3)) i r)) :
    Ok G (d + 1) mX10_gainOf P 0 [some (.int v0), some (.int v1)] [] i r := by
  refine ok_iload_n 0 dX10_gainOf_0 rfl rfl ?_
  refine ok_iconst 1 dX10_gainOf_1 (by decide) ?_
  have k4 : ∀ x3 : Int32, x3 = (if v0 = 1 then (10 + v1) else (if v0 = 2 then (20 + v1) else (40 + v1))) → Ok G (d + 1) mX10_gainOf P 28 [none, none] [.int x3] i r := by
    intro x3 ex3
    replace h := h x3 ex3
    exact ok_iret .int dX10_gainOf_28 rfl rfl h
  clear h
  refine ok_ic_ne 12 dX10_gainOf_2 (by decide) (fun z1 => ?_) (fun z1 => ?_)
  · refine ok_iload_n 0 dX10_gainOf_12 rfl rfl ?_
    refine ok_iconst 2 dX10_gainOf_13 (by decide) ?_
    refine ok_ic_ne 24 dX10_gainOf_14 (by decide) (fun z2 => ?_) (fun z2 => ?_)
    · refine ok_bipush 40 dX10_gainOf_24 (by decide) ?_
      refine ok_iload_n 1 dX10_gainOf_26 rfl rfl ?_
      refine ok_iadd dX10_gainOf_27 ?_
      refine ok_wk [none, none] trivial ?_
      exact k4 ((40 + v1)) (by simp only [if_neg z1, if_neg z2])
    · refine ok_bipush 20 dX10_gainOf_17 (by decide) ?_
      refine ok_iload_n 1 dX10_gainOf_19 rfl rfl ?_
      refine ok_iadd dX10_gainOf_20 ?_
      refine ok_goto 28 dX10_gainOf_21 (by decide) ?_
      refine ok_wk [none, none] trivial ?_
      exact k4 ((20 + v1)) (by simp only [if_neg z1, if_pos z2])
  · refine ok_bipush 10 dX10_gainOf_5 (by decide) ?_
    refine ok_iload_n 1 dX10_gainOf_7 rfl rfl ?_
    refine ok_iadd dX10_gainOf_8 ?_
    refine ok_goto 28 dX10_gainOf_9 (by decide) ?_
    refine ok_wk [none, none] trivial ?_
    exact k4 ((10 + v1)) (by simp only [if_pos z1])

set_option maxRecDepth 100000 in
set_option maxHeartbeats 4000000 in
theorem sX10_greatestLoss_0 {G : o_G} {d : Nat} {P : o_P} {i : o_I} {r : o_R} (v0 : Nat)
    (h : Ok G (d + 1) mX10_greatestLoss P 4 [some (.ref v0), some (.int 0), some (.int 1)] [] i r) :
    Ok G (d + 1) mX10_greatestLoss P 0 [some (.ref v0), none, none] [] i r := by
  refine ok_iconst 0 dX10_greatestLoss_0 (by decide) ?_
  refine ok_istore_n 1 dX10_greatestLoss_1 rfl (by decide) [some (.ref v0), some (.int 0), none] rfl ?_
  refine ok_iconst 1 dX10_greatestLoss_2 (by decide) ?_
  refine ok_istore_n 2 dX10_greatestLoss_3 rfl (by decide) [some (.ref v0), some (.int 0), some (.int 1)] rfl ?_
  exact h

set_option maxRecDepth 100000 in
set_option maxHeartbeats 4000000 in
theorem sX10_greatestLoss_4 {G : o_G} {d : Nat} {P : o_P} {i : o_I} {r : o_R} (v0 : Nat) (v1 : Int32) (v2 : Int32)
    (h : o_O G v0 10 ∧ (((i v0 31) ≤ v2 → P (some (.int v1)) i r) ∧ (¬ (i v0 31) ≤ v2 → (((i v0 28) = 0 → P (some (.int v1)) i r) ∧ (¬ (i v0 28) = 0 → o_Y G (r v0 32) 1 ∧ vp_in v2 (o_len G (r v0 32)) ∧ (∀ x8 : Int32, x8 = (if 10 ≤ (i (r v0 32) v2.toNatClampNeg) then v1 else (if (i (r v0 32) v2.toNatClampNeg) ≤ v1 then v1 else (i (r v0 32) v2.toNatClampNeg))) → ∀ x9 : Int32, x9 = v2 + 1 → Ok G (d + 1) mX10_greatestLoss P 4 [some (.ref v0), some (.int x8), some (.int x9)] [] i r)))))) :
    Ok G (d + 1) mX10_greatestLoss P 4 [some (.ref v0), some (.int v1), some (.int v2)] [] i r := by
  refine ok_iload_n 2 dX10_greatestLoss_4 rfl rfl ?_
  refine ok_aload_n 0 dX10_greatestLoss_5 rfl rfl ?_
  obtain ⟨c1, h⟩ := h
  refine ok_geti 10 31 dX10_greatestLoss_6 f10_153 rfl c1 ?_
  refine ok_ic_ge 57 dX10_greatestLoss_9 (by decide) (fun z2 => ?_) (fun z2 => ?_)
  · replace h := h.1 z2
    refine ok_iload_n 1 dX10_greatestLoss_57 rfl rfl ?_
    exact ok_iret .int dX10_greatestLoss_58 rfl rfl h
  · replace h := h.2 z2
    refine ok_aload_n 0 dX10_greatestLoss_12 rfl rfl ?_
    refine ok_geti 10 28 dX10_greatestLoss_13 f10_149 rfl c1 ?_
    refine ok_if_eq 57 dX10_greatestLoss_16 (by decide) (fun z3 => ?_) (fun z3 => ?_)
    · replace h := h.1 z3
      refine ok_iload_n 1 dX10_greatestLoss_57 rfl rfl ?_
      exact ok_iret .int dX10_greatestLoss_58 rfl rfl h
    · replace h := h.2 z3
      refine ok_aload_n 0 dX10_greatestLoss_19 rfl rfl ?_
      refine ok_getr 10 32 dX10_greatestLoss_20 f10_80 rfl c1 ?_
      refine ok_iload_n 2 dX10_greatestLoss_23 rfl rfl ?_
      obtain ⟨c4, h⟩ := h
      obtain ⟨c5, h⟩ := h
      refine ok_iald dX10_greatestLoss_24 c4 c5 ?_
      refine ok_bipush 10 dX10_greatestLoss_25 (by decide) ?_
      have k10 : ∀ x8 : Int32, x8 = (if 10 ≤ (i (r v0 32) v2.toNatClampNeg) then v1 else (if (i (r v0 32) v2.toNatClampNeg) ≤ v1 then v1 else (i (r v0 32) v2.toNatClampNeg))) → Ok G (d + 1) mX10_greatestLoss P 50 [some (.ref v0), none, some (.int v2)] [.int x8] i r := by
        intro x8 ex8
        replace h := h x8 ex8
        refine ok_istore_n 1 dX10_greatestLoss_50 rfl (by decide) [some (.ref v0), some (.int x8), some (.int v2)] rfl ?_
        refine ok_eqi (v2 + 1) (fun x9 ex9 => ?_)
        replace h := h x9 ex9
        refine ok_iinc 1 x9 dX10_greatestLoss_51 rfl (by decide) ex9 (by decide) [some (.ref v0), some (.int x8), some (.int x9)] rfl ?_
        refine ok_goto 4 dX10_greatestLoss_54 (by decide) ?_
        exact h
      clear h
      refine ok_ic_ge 49 dX10_greatestLoss_27 (by decide) (fun z6 => ?_) (fun z6 => ?_)
      · refine ok_iload_n 1 dX10_greatestLoss_49 rfl rfl ?_
        refine ok_wk [some (.ref v0), none, some (.int v2)] ⟨rfl, rfl, trivial⟩ ?_
        exact k10 (v1) (by simp only [if_pos z6])
      · refine ok_aload_n 0 dX10_greatestLoss_30 rfl rfl ?_
        refine ok_getr 10 32 dX10_greatestLoss_31 f10_80 rfl c1 ?_
        refine ok_iload_n 2 dX10_greatestLoss_34 rfl rfl ?_
        refine ok_iald dX10_greatestLoss_35 c4 c5 ?_
        refine ok_iload_n 1 dX10_greatestLoss_36 rfl rfl ?_
        refine ok_ic_le 49 dX10_greatestLoss_37 (by decide) (fun z7 => ?_) (fun z7 => ?_)
        · refine ok_iload_n 1 dX10_greatestLoss_49 rfl rfl ?_
          refine ok_wk [some (.ref v0), none, some (.int v2)] ⟨rfl, rfl, trivial⟩ ?_
          exact k10 (v1) (by simp only [if_neg z6, if_pos z7])
        · refine ok_aload_n 0 dX10_greatestLoss_40 rfl rfl ?_
          refine ok_getr 10 32 dX10_greatestLoss_41 f10_80 rfl c1 ?_
          refine ok_iload_n 2 dX10_greatestLoss_44 rfl rfl ?_
          refine ok_iald dX10_greatestLoss_45 c4 c5 ?_
          refine ok_goto 50 dX10_greatestLoss_46 (by decide) ?_
          refine ok_wk [some (.ref v0), none, some (.int v2)] ⟨rfl, rfl, trivial⟩ ?_
          exact k10 ((i (r v0 32) v2.toNatClampNeg)) (by simp only [if_neg z6, if_neg z7])

set_option maxRecDepth 100000 in
set_option maxHeartbeats 4000000 in
theorem sX10_isBase_0 {G : o_G} {d : Nat} {P : o_P} {i : o_I} {r : o_R} (v0 : Int32)
    (h : (∀ x3 : Int32, x3 = (if v0 < 0 then 0 else (if 4 ≤ v0 then 0 else 1)) → (x3 = 0 ∨ x3 = 1) ∧ P (some (.int x3)) i r)) :
    Ok G (d + 1) mX10_isBase P 0 [some (.int v0)] [] i r := by
  refine ok_iload_n 0 dX10_isBase_0 rfl rfl ?_
  have k5 : ∀ x3 : Int32, x3 = (if v0 < 0 then 0 else (if 4 ≤ v0 then 0 else 1)) → Ok G (d + 1) mX10_isBase P 14 [none] [.int x3] i r := by
    intro x3 ex3
    replace h := h x3 ex3
    obtain ⟨c4, h⟩ := h
    exact ok_iret .boolean dX10_isBase_14 rfl (o_bool c4).1 h
  clear h
  refine ok_if_lt 13 dX10_isBase_1 (by decide) (fun z1 => ?_) (fun z1 => ?_)
  · refine ok_iconst 0 dX10_isBase_13 (by decide) ?_
    refine ok_wk [none] trivial ?_
    exact k5 (0) (by simp only [if_pos z1])
  · refine ok_iload_n 0 dX10_isBase_4 rfl rfl ?_
    refine ok_iconst 4 dX10_isBase_5 (by decide) ?_
    refine ok_ic_ge 13 dX10_isBase_6 (by decide) (fun z2 => ?_) (fun z2 => ?_)
    · refine ok_iconst 0 dX10_isBase_13 (by decide) ?_
      refine ok_wk [none] trivial ?_
      exact k5 (0) (by simp only [if_neg z1, if_pos z2])
    · refine ok_iconst 1 dX10_isBase_9 (by decide) ?_
      refine ok_goto 14 dX10_isBase_10 (by decide) ?_
      refine ok_wk [none] trivial ?_
      exact k5 (1) (by simp only [if_neg z1, if_neg z2])

set_option maxRecDepth 100000 in
set_option maxHeartbeats 4000000 in
theorem sX10_length_0 {G : o_G} {d : Nat} {P : o_P} {i : o_I} {r : o_R} (v0 : Nat)
    (h : o_O G v0 10 ∧ SpV G d mX10_write [.ref v0, .int (-1)] (fun i2 => P (some (.int (i2 v0 38))) i2 r) i r) :
    Ok G (d + 1) mX10_length P 0 [some (.ref v0)] [] i r := by
  refine ok_aload_n 0 dX10_length_0 rfl rfl ?_
  refine ok_iconst (-1) dX10_length_1 (by decide) ?_
  obtain ⟨c1, h⟩ := h
  refine ok_cVv (rest := []) o_rc 10 [.int (-1)] dX10_length_2 k10_263 c1 rfl rfl (Nat.le_of_ble_eq_true rfl) h (fun i2 h => ?_)
  refine ok_aload_n 0 dX10_length_5 rfl rfl ?_
  refine ok_geti 10 38 dX10_length_6 f10_223 rfl c1 ?_
  exact ok_iret .int dX10_length_9 rfl rfl h

set_option maxRecDepth 100000 in
set_option maxHeartbeats 4000000 in
theorem sX10_letter_0 {G : o_G} {d : Nat} {P : o_P} {i : o_I} {r : o_R} (v0 : Nat) (v1 : Int32)
    (h : o_O G v0 10 ∧ SpV G d mX10_write [.ref v0, .int v1] (fun i2 => P (some (.int (i2 v0 40))) i2 r) i r) :
    Ok G (d + 1) mX10_letter P 0 [some (.ref v0), some (.int v1)] [] i r := by
  refine ok_aload_n 0 dX10_letter_0 rfl rfl ?_
  refine ok_iload_n 1 dX10_letter_1 rfl rfl ?_
  obtain ⟨c1, h⟩ := h
  refine ok_cVv (rest := []) o_rc 10 [.int v1] dX10_letter_2 k10_263 c1 rfl rfl (Nat.le_of_ble_eq_true rfl) h (fun i2 h => ?_)
  refine ok_aload_n 0 dX10_letter_5 rfl rfl ?_
  refine ok_geti 10 40 dX10_letter_6 f10_229 rfl c1 ?_
  exact ok_iret .int dX10_letter_9 rfl rfl h

set_option maxRecDepth 100000 in
set_option maxHeartbeats 4000000 in
theorem sX10_link_0 {G : o_G} {d : Nat} {P : o_P} {i : o_I} {r : o_R} (v0 : Nat) (v1 : Int32) (v2 : Int32) (v3 : Int32)
    (h : o_O G v0 10 ∧ o_Y G (r v0 25) 1 ∧ vp_in (i v0 24) (o_len G (r v0 25)) ∧ ∀ i4 : o_I, i4 = o_up i (r v0 25) (i v0 24).toNatClampNeg v1 → o_Y G (r v0 26) 1 ∧ vp_in (i4 v0 24) (o_len G (r v0 26)) ∧ ∀ i7 : o_I, i7 = o_up i4 (r v0 26) (i4 v0 24).toNatClampNeg v2 → o_Y G (r v0 27) 1 ∧ vp_in (i7 v0 24) (o_len G (r v0 27)) ∧ ∀ i10 : o_I, i10 = o_up i7 (r v0 27) (i7 v0 24).toNatClampNeg v3 → ∀ i11 : o_I, i11 = o_up i10 v0 24 ((i10 v0 24) + 1) → P none i11 r) :
    Ok G (d + 1) mX10_link P 0 [some (.ref v0), some (.int v1), some (.int v2), some (.int v3)] [] i r := by
  refine ok_aload_n 0 dX10_link_0 rfl rfl ?_
  obtain ⟨c1, h⟩ := h
  refine ok_getr 10 25 dX10_link_1 f10_71 rfl c1 ?_
  refine ok_aload_n 0 dX10_link_4 rfl rfl ?_
  refine ok_geti 10 24 dX10_link_5 f10_133 rfl c1 ?_
  refine ok_iload_n 1 dX10_link_8 rfl rfl ?_
  obtain ⟨c2, h⟩ := h
  obtain ⟨c3, h⟩ := h
  refine ok_iast dX10_link_9 c2 c3 ?_
  refine ok_nmi (fun i4 ei4 => ?_)
  replace h := h i4 ei4
  refine ok_aload_n 0 dX10_link_10 rfl rfl ?_
  refine ok_getr 10 26 dX10_link_11 f10_74 rfl c1 ?_
  refine ok_aload_n 0 dX10_link_14 rfl rfl ?_
  refine ok_geti 10 24 dX10_link_15 f10_133 rfl c1 ?_
  refine ok_iload_n 2 dX10_link_18 rfl rfl ?_
  obtain ⟨c5, h⟩ := h
  obtain ⟨c6, h⟩ := h
  refine ok_iast dX10_link_19 c5 c6 ?_
  refine ok_nmi (fun i7 ei7 => ?_)
  replace h := h i7 ei7
  refine ok_aload_n 0 dX10_link_20 rfl rfl ?_
  refine ok_getr 10 27 dX10_link_21 f10_77 rfl c1 ?_
  refine ok_aload_n 0 dX10_link_24 rfl rfl ?_
  refine ok_geti 10 24 dX10_link_25 f10_133 rfl c1 ?_
  refine ok_iload_n 3 dX10_link_28 rfl rfl ?_
  obtain ⟨c8, h⟩ := h
  obtain ⟨c9, h⟩ := h
  refine ok_iast dX10_link_29 c8 c9 ?_
  refine ok_nmi (fun i10 ei10 => ?_)
  replace h := h i10 ei10
  refine ok_aload_n 0 dX10_link_30 rfl rfl ?_
  refine ok_dup dX10_link_31 rfl ?_
  refine ok_geti 10 24 dX10_link_32 f10_133 rfl c1 ?_
  refine ok_iconst 1 dX10_link_35 (by decide) ?_
  refine ok_iadd dX10_link_36 ?_
  refine ok_puti 10 24 .int dX10_link_37 f10_133 rfl rfl (by decide +kernel) rfl rfl c1 ?_
  refine ok_nmi (fun i11 ei11 => ?_)
  replace h := h i11 ei11
  exact ok_vret dX10_link_40 rfl h

set_option maxRecDepth 100000 in
set_option maxHeartbeats 4000000 in
theorem sX10_links_0 {G : o_G} {d : Nat} {P : o_P} {i : o_I} {r : o_R} (v0 : Nat) (v1 : Int32) (v2 : Int32)
    (h : Ok G (d + 1) mX10_links P 5 [some (.ref v0), some (.int v1), some (.int v2), some (.int 0), some (.int 0), none] [] i r) :
    Ok G (d + 1) mX10_links P 0 [some (.ref v0), some (.int v1), some (.int v2), none, none, none] [] i r := by
  refine ok_iconst 0 dX10_links_0 (by decide) ?_
  refine ok_istore_n 3 dX10_links_1 rfl (by decide) [some (.ref v0), some (.int v1), some (.int v2), some (.int 0), none, none] rfl ?_
  refine ok_iconst 0 dX10_links_2 (by decide) ?_
  refine ok_istore dX10_links_3 (by decide) [some (.ref v0), some (.int v1), some (.int v2), some (.int 0), some (.int 0), none] rfl ?_
  exact h

set_option maxRecDepth 100000 in
set_option maxHeartbeats 4000000 in
theorem sX10_links_5 {G : o_G} {d : Nat} {P : o_P} {i : o_I} {r : o_R} (v0 : Nat) (v1 : Int32) (v2 : Int32) (v3 : Int32) (v4 : Int32)
    (h : o_O G v0 10 ∧ (((i v0 24) ≤ v4 → P (some (.int v3)) i r) ∧ (¬ (i v0 24) ≤ v4 → o_Y G (r v0 26) 1 ∧ vp_in v4 (o_len G (r v0 26)) ∧ ∀ x5 : Int32, x5 = (i (r v0 26) v4.toNatClampNeg) → o_Y G (r v0 25) 1 ∧ vp_in v4 (o_len G (r v0 25)) ∧ (∀ x14 : Int32, x14 = (if (i (r v0 25) v4.toNatClampNeg) = v1 then (if x5 = 0 then (if 0 = v2 then 1 else 0) else (if 10 ≤ x5 then (if 2 = v2 then 1 else 0) else (if 1 = v2 then 1 else 0))) else 0) → ∀ x15 : Int32, x15 = (v3 + x14) → ∀ x16 : Int32, x16 = v4 + 1 → Ok G (d + 1) mX10_links P 5 [some (.ref v0), some (.int v1), some (.int v2), some (.int x15), some (.int x16), none] [] i r)))) :
    Ok G (d + 1) mX10_links P 5 [some (.ref v0), some (.int v1), some (.int v2), some (.int v3), some (.int v4), none] [] i r := by
  refine ok_iload dX10_links_5 rfl ?_
  refine ok_aload_n 0 dX10_links_7 rfl rfl ?_
  obtain ⟨c1, h⟩ := h
  refine ok_geti 10 24 dX10_links_8 f10_133 rfl c1 ?_
  refine ok_ic_ge 73 dX10_links_11 (by decide) (fun z2 => ?_) (fun z2 => ?_)
  · replace h := h.1 z2
    refine ok_iload_n 3 dX10_links_73 rfl rfl ?_
    exact ok_iret .int dX10_links_74 rfl rfl h
  · replace h := h.2 z2
    refine ok_aload_n 0 dX10_links_14 rfl rfl ?_
    refine ok_getr 10 26 dX10_links_15 f10_74 rfl c1 ?_
    refine ok_iload dX10_links_18 rfl ?_
    obtain ⟨c3, h⟩ := h
    obtain ⟨c4, h⟩ := h
    refine ok_iald dX10_links_20 c3 c4 ?_
    refine ok_topi (fun x5 ex5 => ?_)
    replace h := h x5 ex5
    refine ok_istore dX10_links_21 (by decide) [some (.ref v0), some (.int v1), some (.int v2), some (.int v3), some (.int v4), some (.int x5)] rfl ?_
    refine ok_iload_n 3 dX10_links_23 rfl rfl ?_
    refine ok_aload_n 0 dX10_links_24 rfl rfl ?_
    refine ok_getr 10 25 dX10_links_25 f10_71 rfl c1 ?_
    refine ok_iload dX10_links_28 rfl ?_
    obtain ⟨c6, h⟩ := h
    obtain ⟨c7, h⟩ := h
    refine ok_iald dX10_links_30 c6 c7 ?_
    refine ok_iload_n 1 dX10_links_31 rfl rfl ?_
    have k17 : ∀ x14 : Int32, x14 = (if (i (r v0 25) v4.toNatClampNeg) = v1 then (if x5 = 0 then (if 0 = v2 then 1 else 0) else (if 10 ≤ x5 then (if 2 = v2 then 1 else 0) else (if 1 = v2 then 1 else 0))) else 0) → Ok G (d + 1) mX10_links P 65 [some (.ref v0), some (.int v1), some (.int v2), none, some (.int v4), none] [.int x14, .int v3] i r := by
      intro x14 ex14
      replace h := h x14 ex14
      refine ok_iadd dX10_links_65 ?_
      refine ok_topi (fun x15 ex15 => ?_)
      replace h := h x15 ex15
      refine ok_istore_n 3 dX10_links_66 rfl (by decide) [some (.ref v0), some (.int v1), some (.int v2), some (.int x15), some (.int v4), none] rfl ?_
      refine ok_eqi (v4 + 1) (fun x16 ex16 => ?_)
      replace h := h x16 ex16
      refine ok_iinc 1 x16 dX10_links_67 rfl (by decide) ex16 (by decide) [some (.ref v0), some (.int v1), some (.int v2), some (.int x15), some (.int x16), none] rfl ?_
      refine ok_goto 5 dX10_links_70 (by decide) ?_
      exact h
    clear h
    refine ok_ic_ne 64 dX10_links_32 (by decide) (fun z8 => ?_) (fun z8 => ?_)
    · refine ok_iconst 0 dX10_links_64 (by decide) ?_
      refine ok_wk [some (.ref v0), some (.int v1), some (.int v2), none, some (.int v4), none] ⟨rfl, rfl, rfl, rfl, trivial⟩ ?_
      exact k17 (0) (by simp only [if_neg z8])
    · refine ok_iload dX10_links_35 rfl ?_
      refine ok_if_ne 44 dX10_links_37 (by decide) (fun z9 => ?_) (fun z9 => ?_)
      · refine ok_iload dX10_links_44 rfl ?_
        refine ok_bipush 10 dX10_links_46 (by decide) ?_
        refine ok_ic_ge 55 dX10_links_48 (by decide) (fun z10 => ?_) (fun z10 => ?_)
        · refine ok_iconst 2 dX10_links_55 (by decide) ?_
          refine ok_iload_n 2 dX10_links_56 rfl rfl ?_
          refine ok_ic_ne 64 dX10_links_57 (by decide) (fun z11 => ?_) (fun z11 => ?_)
          · refine ok_iconst 0 dX10_links_64 (by decide) ?_
            refine ok_wk [some (.ref v0), some (.int v1), some (.int v2), none, some (.int v4), none] ⟨rfl, rfl, rfl, rfl, trivial⟩ ?_
            exact k17 (0) (by simp only [if_pos z8, if_neg z9, if_pos z10, if_neg z11])
          · refine ok_iconst 1 dX10_links_60 (by decide) ?_
            refine ok_goto 65 dX10_links_61 (by decide) ?_
            refine ok_wk [some (.ref v0), some (.int v1), some (.int v2), none, some (.int v4), none] ⟨rfl, rfl, rfl, rfl, trivial⟩ ?_
            exact k17 (1) (by simp only [if_pos z8, if_neg z9, if_pos z10, if_pos z11])
        · refine ok_iconst 1 dX10_links_51 (by decide) ?_
          refine ok_goto 56 dX10_links_52 (by decide) ?_
          refine ok_iload_n 2 dX10_links_56 rfl rfl ?_
          refine ok_ic_ne 64 dX10_links_57 (by decide) (fun z12 => ?_) (fun z12 => ?_)
          · refine ok_iconst 0 dX10_links_64 (by decide) ?_
            refine ok_wk [some (.ref v0), some (.int v1), some (.int v2), none, some (.int v4), none] ⟨rfl, rfl, rfl, rfl, trivial⟩ ?_
            exact k17 (0) (by simp only [if_pos z8, if_neg z9, if_neg z10, if_neg z12])
          · refine ok_iconst 1 dX10_links_60 (by decide) ?_
            refine ok_goto 65 dX10_links_61 (by decide) ?_
            refine ok_wk [some (.ref v0), some (.int v1), some (.int v2), none, some (.int v4), none] ⟨rfl, rfl, rfl, rfl, trivial⟩ ?_
            exact k17 (1) (by simp only [if_pos z8, if_neg z9, if_neg z10, if_pos z12])
      · refine ok_iconst 0 dX10_links_40 (by decide) ?_
        refine ok_goto 56 dX10_links_41 (by decide) ?_
        refine ok_iload_n 2 dX10_links_56 rfl rfl ?_
        refine ok_ic_ne 64 dX10_links_57 (by decide) (fun z13 => ?_) (fun z13 => ?_)
        · refine ok_iconst 0 dX10_links_64 (by decide) ?_
          refine ok_wk [some (.ref v0), some (.int v1), some (.int v2), none, some (.int v4), none] ⟨rfl, rfl, rfl, rfl, trivial⟩ ?_
          exact k17 (0) (by simp only [if_pos z8, if_pos z9, if_neg z13])
        · refine ok_iconst 1 dX10_links_60 (by decide) ?_
          refine ok_goto 65 dX10_links_61 (by decide) ?_
          refine ok_wk [some (.ref v0), some (.int v1), some (.int v2), none, some (.int v4), none] ⟨rfl, rfl, rfl, rfl, trivial⟩ ?_
          exact k17 (1) (by simp only [if_pos z8, if_pos z9, if_pos z13])

set_option maxRecDepth 100000 in
set_option maxHeartbeats 4000000 in
theorem sX10_look_0 {G : o_G} {d : Nat} {P : o_P} {i : o_I} {r : o_R} (v0 : Nat) (v1 : Int32) (v2 : Int32)
    (h : o_O G v0 10 ∧ o_Y G (r v0 1) 1 ∧ vp_in v1 (o_len G (r v0 1)) ∧ (((i (r v0 1) v1.toNatClampNeg) ≤ v2 → True) ∧ (¬ (i (r v0 1) v1.toNatClampNeg) ≤ v2 → o_Y G (r v0 0) 2 ∧ vp_in ((100 * v1) + v2) (o_len G (r v0 0)) ∧ True)) ∧ (∀ x7 : Int32, x7 = (if (i (r v0 1) v1.toNatClampNeg) ≤ v2 then 0 else (i (r v0 0) ((100 * v1) + v2).toNatClampNeg)) → narrow .char (.int x7) = .int x7 ∧ P (some (.int x7)) i r)) :
    Ok G (d + 1) mX10_look P 0 [some (.ref v0), some (.int v1), some (.int v2)] [] i r := by
  refine ok_iload_n 2 dX10_look_0 rfl rfl ?_
  refine ok_aload_n 0 dX10_look_1 rfl rfl ?_
  obtain ⟨c1, h⟩ := h
  refine ok_getr 10 1 dX10_look_2 f10_13 rfl c1 ?_
  refine ok_iload_n 1 dX10_look_5 rfl rfl ?_
  obtain ⟨c2, h⟩ := h
  obtain ⟨c3, h⟩ := h
  refine ok_iald dX10_look_6 c2 c3 ?_
  obtain ⟨hs, h⟩ := h
  have k9 : ∀ x7 : Int32, x7 = (if (i (r v0 1) v1.toNatClampNeg) ≤ v2 then 0 else (i (r v0 0) ((100 * v1) + v2).toNatClampNeg)) → Ok G (d + 1) mX10_look P 25 [none, none, none] [.int x7] i r := by
    intro x7 ex7
    replace h := h x7 ex7
    obtain ⟨c8, h⟩ := h
    exact ok_iret .char dX10_look_25 rfl c8 h
  clear h
  refine ok_ic_ge 24 dX10_look_7 (by decide) (fun z4 => ?_) (fun z4 => ?_)
  · replace hs := hs.1 z4
    refine ok_iconst 0 dX10_look_24 (by decide) ?_
    refine ok_wk [none, none, none] trivial ?_
    exact k9 (0) (by simp only [if_pos z4])
  · replace hs := hs.2 z4
    refine ok_aload_n 0 dX10_look_10 rfl rfl ?_
    refine ok_getr 10 0 dX10_look_11 f10_7 rfl c1 ?_
    refine ok_bipush 100 dX10_look_14 (by decide) ?_
    refine ok_iload_n 1 dX10_look_16 rfl rfl ?_
    refine ok_imul dX10_look_17 ?_
    refine ok_iload_n 2 dX10_look_18 rfl rfl ?_
    refine ok_iadd dX10_look_19 ?_
    obtain ⟨c5, hs⟩  := hs
    obtain ⟨c6, hs⟩  := hs
    refine ok_cald dX10_look_20 c5 c6 ?_
    refine ok_goto 25 dX10_look_21 (by decide) ?_
    refine ok_wk [none, none, none] trivial ?_
    exact k9 ((i (r v0 0) ((100 * v1) + v2).toNatClampNeg)) (by simp only [if_neg z4])

set_option maxRecDepth 100000 in
set_option maxHeartbeats 4000000 in
theorem sX10_measure_0 {G : o_G} {d : Nat} {P : o_P} {i : o_I} {r : o_R} (v0 : Nat) (v1 : Int32) (v2 : Int32)
    (h : o_O G v0 10 ∧ (∀ x3 : Int32, x3 = (if 19 ≤ ((i v0 2) - v2) then 19 else ((i v0 2) - v2)) → Ok G (d + 1) mX10_measure P 26 [some (.ref v0), some (.int v1), some (.int v2), some (.int x3), some (.int 0), none, none] [] i r)) :
    Ok G (d + 1) mX10_measure P 0 [some (.ref v0), some (.int v1), some (.int v2), none, none, none, none] [] i r := by
  refine ok_aload_n 0 dX10_measure_0 rfl rfl ?_
  obtain ⟨c1, h⟩ := h
  refine ok_geti 10 2 dX10_measure_1 f10_120 rfl c1 ?_
  refine ok_iload_n 2 dX10_measure_4 rfl rfl ?_
  refine ok_isub dX10_measure_5 ?_
  refine ok_bipush 19 dX10_measure_6 (by decide) ?_
  have k4 : ∀ x3 : Int32, x3 = (if 19 ≤ ((i v0 2) - v2) then 19 else ((i v0 2) - v2)) → Ok G (d + 1) mX10_measure P 22 [some (.ref v0), some (.int v1), some (.int v2), none, none, none, none] [.int x3] i r := by
    intro x3 ex3
    replace h := h x3 ex3
    refine ok_istore_n 3 dX10_measure_22 rfl (by decide) [some (.ref v0), some (.int v1), some (.int v2), some (.int x3), none, none, none] rfl ?_
    refine ok_iconst 0 dX10_measure_23 (by decide) ?_
    refine ok_istore dX10_measure_24 (by decide) [some (.ref v0), some (.int v1), some (.int v2), some (.int x3), some (.int 0), none, none] rfl ?_
    exact h
  clear h
  refine ok_ic_ge 20 dX10_measure_8 (by decide) (fun z2 => ?_) (fun z2 => ?_)
  · refine ok_bipush 19 dX10_measure_20 (by decide) ?_
    exact k4 (19) (by simp only [if_pos z2])
  · refine ok_aload_n 0 dX10_measure_11 rfl rfl ?_
    refine ok_geti 10 2 dX10_measure_12 f10_120 rfl c1 ?_
    refine ok_iload_n 2 dX10_measure_15 rfl rfl ?_
    refine ok_isub dX10_measure_16 ?_
    refine ok_goto 22 dX10_measure_17 (by decide) ?_
    exact k4 (((i v0 2) - v2)) (by simp only [if_neg z2])

set_option maxRecDepth 100000 in
set_option maxHeartbeats 4000000 in
theorem sX10_measure_26 {G : o_G} {d : Nat} {P : o_P} {i : o_I} {r : o_R} (v0 : Nat) (v1 : Int32) (v2 : Int32) (v3 : Int32) (v4 : Int32)
    (h : ((v1 < v4 → P (some (.int v3)) i r) ∧ (¬ v1 < v4 → Ok G (d + 1) mX10_measure P 35 [some (.ref v0), some (.int v1), some (.int v2), some (.int v3), some (.int v4), some (.int 0), none] [] i r))) :
    Ok G (d + 1) mX10_measure P 26 [some (.ref v0), some (.int v1), some (.int v2), some (.int v3), some (.int v4), none, none] [] i r := by
  refine ok_iload dX10_measure_26 rfl ?_
  refine ok_iload_n 1 dX10_measure_28 rfl rfl ?_
  refine ok_ic_gt 241 dX10_measure_29 (by decide) (fun z1 => ?_) (fun z1 => ?_)
  · replace h := h.1 z1
    refine ok_iload_n 3 dX10_measure_241 rfl rfl ?_
    exact ok_iret .int dX10_measure_242 rfl rfl h
  · replace h := h.2 z1
    refine ok_iconst 0 dX10_measure_32 (by decide) ?_
    refine ok_istore dX10_measure_33 (by decide) [some (.ref v0), some (.int v1), some (.int v2), some (.int v3), some (.int v4), some (.int 0), none] rfl ?_
    exact h

set_option maxRecDepth 100000 in
set_option maxHeartbeats 4000000 in
theorem sX10_measure_35 {G : o_G} {d : Nat} {P : o_P} {i : o_I} {r : o_R} (v0 : Nat) (v1 : Int32) (v2 : Int32) (v3 : Int32) (v4 : Int32) (v5 : Int32)
    (h : ((v3 < v5 → ∀ x2 : Int32, x2 = v4 + 1 → Ok G (d + 1) mX10_measure P 26 [some (.ref v0), some (.int v1), some (.int v2), some (.int v3), some (.int x2), none, none] [] i r) ∧ (¬ v3 < v5 → ((¬ v4 = 0 → ((¬ v5 = 0 → o_O G v0 10 ∧ o_Y G (r v0 19) 1 ∧ vp_in ((((20 * v4) - 20) + v5) - 1) (o_len G (r v0 19)) ∧ o_Y G (r v0 17) 1 ∧ vp_in (v4 - 1) (o_len G (r v0 17)) ∧ o_Y G (r v0 3) 1 ∧ vp_in ((v2 + v5) - 1) (o_len G (r v0 3)) ∧ True) ∧ (v5 = 0 → True))) ∧ (v4 = 0 → True)) ∧ (∀ x13 : Int32, x13 = (if v4 = 0 then v5 else (if v5 = 0 then v4 else (if (i (r v0 17) (v4 - 1).toNatClampNeg) = (i (r v0 3) ((v2 + v5) - 1).toNatClampNeg) then ((i (r v0 19) ((((20 * v4) - 20) + v5) - 1).toNatClampNeg) + 0) else ((i (r v0 19) ((((20 * v4) - 20) + v5) - 1).toNatClampNeg) + 1)))) → ((v4 ≤ 0 → True) ∧ (¬ v4 ≤ 0 → o_O G v0 10 ∧ o_Y G (r v0 19) 1 ∧ vp_in (((20 * v4) - 20) + v5) (o_len G (r v0 19)) ∧ True)) ∧ (∀ x19 : Int32, x19 = (if v4 ≤ 0 then x13 else (if x13 ≤ ((i (r v0 19) (((20 * v4) - 20) + v5).toNatClampNeg) + 1) then x13 else ((i (r v0 19) (((20 * v4) - 20) + v5).toNatClampNeg) + 1))) → ((v5 ≤ 0 → True) ∧ (¬ v5 ≤ 0 → o_O G v0 10 ∧ o_Y G (r v0 19) 1 ∧ vp_in (((20 * v4) + v5) - 1) (o_len G (r v0 19)) ∧ True)) ∧ (∀ x25 : Int32, x25 = (if v5 ≤ 0 then x19 else (if x19 ≤ ((i (r v0 19) (((20 * v4) + v5) - 1).toNatClampNeg) + 1) then x19 else ((i (r v0 19) (((20 * v4) + v5) - 1).toNatClampNeg) + 1))) → o_O G v0 10 ∧ o_Y G (r v0 19) 1 ∧ vp_in ((20 * v4) + v5) (o_len G (r v0 19)) ∧ ∀ i29 : o_I, i29 = o_up i (r v0 19) ((20 * v4) + v5).toNatClampNeg x25 → ∀ x30 : Int32, x30 = v5 + 1 → Ok G (d + 1) mX10_measure P 35 [some (.ref v0), some (.int v1), some (.int v2), some (.int v3), some (.int v4), some (.int x30), none] [] i29 r)))))) :
    Ok G (d + 1) mX10_measure P 35 [some (.ref v0), some (.int v1), some (.int v2), some (.int v3), some (.int v4), some (.int v5), none] [] i r := by
  refine ok_iload dX10_measure_35 rfl ?_
  refine ok_iload_n 3 dX10_measure_37 rfl rfl ?_
  refine ok_ic_gt 235 dX10_measure_38 (by decide) (fun z1 => ?_) (fun z1 => ?_)
  · replace h := h.1 z1
    refine ok_eqi (v4 + 1) (fun x2 ex2 => ?_)
    replace h := h x2 ex2
    refine ok_iinc 1 x2 dX10_measure_235 rfl (by decide) ex2 (by decide) [some (.ref v0), some (.int v1), some (.int v2), some (.int v3), some (.int x2), some (.int v5), none] rfl ?_
    refine ok_goto 26 dX10_measure_238 (by decide) ?_
    refine ok_wk [some (.ref v0), some (.int v1), some (.int v2), some (.int v3), some (.int x2), none, none] ⟨rfl, rfl, rfl, rfl, rfl, trivial⟩ ?_
    exact h
  · replace h := h.2 z1
    refine ok_iload dX10_measure_41 rfl ?_
    obtain ⟨hs, h⟩ := h
    have k33 : ∀ x13 : Int32, x13 = (if v4 = 0 then v5 else (if v5 = 0 then v4 else (if (i (r v0 17) (v4 - 1).toNatClampNeg) = (i (r v0 3) ((v2 + v5) - 1).toNatClampNeg) then ((i (r v0 19) ((((20 * v4) - 20) + v5) - 1).toNatClampNeg) + 0) else ((i (r v0 19) ((((20 * v4) - 20) + v5) - 1).toNatClampNeg) + 1)))) → Ok G (d + 1) mX10_measure P 108 [some (.ref v0), some (.int v1), some (.int v2), some (.int v3), some (.int v4), some (.int v5), none] [.int x13] i r := by
      intro x13 ex13
      replace h := h x13 ex13
      refine ok_istore dX10_measure_108 (by decide) [some (.ref v0), some (.int v1), some (.int v2), some (.int v3), some (.int v4), some (.int v5), some (.int x13)] rfl ?_
      refine ok_iload dX10_measure_110 rfl ?_
      obtain ⟨hs, h⟩ := h
      have k32 : ∀ x19 : Int32, x19 = (if v4 ≤ 0 then x13 else (if x13 ≤ ((i (r v0 19) (((20 * v4) - 20) + v5).toNatClampNeg) + 1) then x13 else ((i (r v0 19) (((20 * v4) - 20) + v5).toNatClampNeg) + 1))) → Ok G (d + 1) mX10_measure P 161 [some (.ref v0), some (.int v1), some (.int v2), some (.int v3), some (.int v4), some (.int v5), none] [.int x19] i r := by
        intro x19 ex19
        replace h := h x19 ex19
        refine ok_istore dX10_measure_161 (by decide) [some (.ref v0), some (.int v1), some (.int v2), some (.int v3), some (.int v4), some (.int v5), some (.int x19)] rfl ?_
        refine ok_iload dX10_measure_163 rfl ?_
        obtain ⟨hs, h⟩ := h
        have k31 : ∀ x25 : Int32, x25 = (if v5 ≤ 0 then x19 else (if x19 ≤ ((i (r v0 19) (((20 * v4) + v5) - 1).toNatClampNeg) + 1) then x19 else ((i (r v0 19) (((20 * v4) + v5) - 1).toNatClampNeg) + 1))) → Ok G (d + 1) mX10_measure P 212 [some (.ref v0), some (.int v1), some (.int v2), some (.int v3), some (.int v4), some (.int v5), none] [.int x25] i r := by
          intro x25 ex25
          replace h := h x25 ex25
          refine ok_istore dX10_measure_212 (by decide) [some (.ref v0), some (.int v1), some (.int v2), some (.int v3), some (.int v4), some (.int v5), some (.int x25)] rfl ?_
          refine ok_aload_n 0 dX10_measure_214 rfl rfl ?_
          obtain ⟨c26, h⟩ := h
          refine ok_getr 10 19 dX10_measure_215 f10_59 rfl c26 ?_
          refine ok_bipush 20 dX10_measure_218 (by decide) ?_
          refine ok_iload dX10_measure_220 rfl ?_
          refine ok_imul dX10_measure_222 ?_
          refine ok_iload dX10_measure_223 rfl ?_
          refine ok_iadd dX10_measure_225 ?_
          refine ok_iload dX10_measure_226 rfl ?_
          obtain ⟨c27, h⟩ := h
          obtain ⟨c28, h⟩ := h
          refine ok_iast dX10_measure_228 c27 c28 ?_
          refine ok_nmi (fun i29 ei29 => ?_)
          replace h := h i29 ei29
          refine ok_eqi (v5 + 1) (fun x30 ex30 => ?_)
          replace h := h x30 ex30
          refine ok_iinc 1 x30 dX10_measure_229 rfl (by decide) ex30 (by decide) [some (.ref v0), some (.int v1), some (.int v2), some (.int v3), some (.int v4), some (.int x30), some (.int x25)] rfl ?_
          refine ok_goto 35 dX10_measure_232 (by decide) ?_
          refine ok_wk [some (.ref v0), some (.int v1), some (.int v2), some (.int v3), some (.int v4), some (.int x30), none] ⟨rfl, rfl, rfl, rfl, rfl, rfl, trivial⟩ ?_
          exact h
        clear h
        refine ok_if_le 210 dX10_measure_165 (by decide) (fun z20 => ?_) (fun z20 => ?_)
        · replace hs := hs.1 z20
          refine ok_iload dX10_measure_210 rfl ?_
          refine ok_wk [some (.ref v0), some (.int v1), some (.int v2), some (.int v3), some (.int v4), some (.int v5), none] ⟨rfl, rfl, rfl, rfl, rfl, rfl, trivial⟩ ?_
          exact k31 (x19) (by simp only [if_pos z20])
        · replace hs := hs.2 z20
          refine ok_aload_n 0 dX10_measure_168 rfl rfl ?_
          obtain ⟨c21, hs⟩  := hs
          refine ok_getr 10 19 dX10_measure_169 f10_59 rfl c21 ?_
          refine ok_bipush 20 dX10_measure_172 (by decide) ?_
          refine ok_iload dX10_measure_174 rfl ?_
          refine ok_imul dX10_measure_176 ?_
          refine ok_iload dX10_measure_177 rfl ?_
          refine ok_iadd dX10_measure_179 ?_
          refine ok_iconst 1 dX10_measure_180 (by decide) ?_
          refine ok_isub dX10_measure_181 ?_
          obtain ⟨c22, hs⟩  := hs
          obtain ⟨c23, hs⟩  := hs
          refine ok_iald dX10_measure_182 c22 c23 ?_
          refine ok_iconst 1 dX10_measure_183 (by decide) ?_
          refine ok_iadd dX10_measure_184 ?_
          refine ok_iload dX10_measure_185 rfl ?_
          refine ok_ic_ge 210 dX10_measure_187 (by decide) (fun z24 => ?_) (fun z24 => ?_)
          · refine ok_iload dX10_measure_210 rfl ?_
            refine ok_wk [some (.ref v0), some (.int v1), some (.int v2), some (.int v3), some (.int v4), some (.int v5), none] ⟨rfl, rfl, rfl, rfl, rfl, rfl, trivial⟩ ?_
            exact k31 (x19) (by simp only [if_neg z20, if_pos z24])
          · refine ok_aload_n 0 dX10_measure_190 rfl rfl ?_
            refine ok_getr 10 19 dX10_measure_191 f10_59 rfl c21 ?_
            refine ok_bipush 20 dX10_measure_194 (by decide) ?_
            refine ok_iload dX10_measure_196 rfl ?_
            refine ok_imul dX10_measure_198 ?_
            refine ok_iload dX10_measure_199 rfl ?_
            refine ok_iadd dX10_measure_201 ?_
            refine ok_iconst 1 dX10_measure_202 (by decide) ?_
            refine ok_isub dX10_measure_203 ?_
            refine ok_iald dX10_measure_204 c22 c23 ?_
            refine ok_iconst 1 dX10_measure_205 (by decide) ?_
            refine ok_iadd dX10_measure_206 ?_
            refine ok_goto 212 dX10_measure_207 (by decide) ?_
            refine ok_wk [some (.ref v0), some (.int v1), some (.int v2), some (.int v3), some (.int v4), some (.int v5), none] ⟨rfl, rfl, rfl, rfl, rfl, rfl, trivial⟩ ?_
            exact k31 (((i (r v0 19) (((20 * v4) + v5) - 1).toNatClampNeg) + 1)) (by simp only [if_neg z20, if_neg z24])
      clear h
      refine ok_if_le 159 dX10_measure_112 (by decide) (fun z14 => ?_) (fun z14 => ?_)
      · replace hs := hs.1 z14
        refine ok_iload dX10_measure_159 rfl ?_
        refine ok_wk [some (.ref v0), some (.int v1), some (.int v2), some (.int v3), some (.int v4), some (.int v5), none] ⟨rfl, rfl, rfl, rfl, rfl, rfl, trivial⟩ ?_
        exact k32 (x13) (by simp only [if_pos z14])
      · replace hs := hs.2 z14
        refine ok_aload_n 0 dX10_measure_115 rfl rfl ?_
        obtain ⟨c15, hs⟩  := hs
        refine ok_getr 10 19 dX10_measure_116 f10_59 rfl c15 ?_
        refine ok_bipush 20 dX10_measure_119 (by decide) ?_
        refine ok_iload dX10_measure_121 rfl ?_
        refine ok_imul dX10_measure_123 ?_
        refine ok_bipush 20 dX10_measure_124 (by decide) ?_
        refine ok_isub dX10_measure_126 ?_
        refine ok_iload dX10_measure_127 rfl ?_
        refine ok_iadd dX10_measure_129 ?_
        obtain ⟨c16, hs⟩  := hs
        obtain ⟨c17, hs⟩  := hs
        refine ok_iald dX10_measure_130 c16 c17 ?_
        refine ok_iconst 1 dX10_measure_131 (by decide) ?_
        refine ok_iadd dX10_measure_132 ?_
        refine ok_iload dX10_measure_133 rfl ?_
        refine ok_ic_ge 159 dX10_measure_135 (by decide) (fun z18 => ?_) (fun z18 => ?_)
        · refine ok_iload dX10_measure_159 rfl ?_
          refine ok_wk [some (.ref v0), some (.int v1), some (.int v2), some (.int v3), some (.int v4), some (.int v5), none] ⟨rfl, rfl, rfl, rfl, rfl, rfl, trivial⟩ ?_
          exact k32 (x13) (by simp only [if_neg z14, if_pos z18])
        · refine ok_aload_n 0 dX10_measure_138 rfl rfl ?_
          refine ok_getr 10 19 dX10_measure_139 f10_59 rfl c15 ?_
          refine ok_bipush 20 dX10_measure_142 (by decide) ?_
          refine ok_iload dX10_measure_144 rfl ?_
          refine ok_imul dX10_measure_146 ?_
          refine ok_bipush 20 dX10_measure_147 (by decide) ?_
          refine ok_isub dX10_measure_149 ?_
          refine ok_iload dX10_measure_150 rfl ?_
          refine ok_iadd dX10_measure_152 ?_
          refine ok_iald dX10_measure_153 c16 c17 ?_
          refine ok_iconst 1 dX10_measure_154 (by decide) ?_
          refine ok_iadd dX10_measure_155 ?_
          refine ok_goto 161 dX10_measure_156 (by decide) ?_
          refine ok_wk [some (.ref v0), some (.int v1), some (.int v2), some (.int v3), some (.int v4), some (.int v5), none] ⟨rfl, rfl, rfl, rfl, rfl, rfl, trivial⟩ ?_
          exact k32 (((i (r v0 19) (((20 * v4) - 20) + v5).toNatClampNeg) + 1)) (by simp only [if_neg z14, if_neg z18])
    clear h
    refine ok_if_ne 51 dX10_measure_43 (by decide) (fun z3 => ?_) (fun z3 => ?_)
    · replace hs := hs.1 z3
      refine ok_iload dX10_measure_51 rfl ?_
      refine ok_if_ne 61 dX10_measure_53 (by decide) (fun z4 => ?_) (fun z4 => ?_)
      · replace hs := hs.1 z4
        refine ok_aload_n 0 dX10_measure_61 rfl rfl ?_
        obtain ⟨c5, hs⟩  := hs
        refine ok_getr 10 19 dX10_measure_62 f10_59 rfl c5 ?_
        refine ok_bipush 20 dX10_measure_65 (by decide) ?_
        refine ok_iload dX10_measure_67 rfl ?_
        refine ok_imul dX10_measure_69 ?_
        refine ok_bipush 20 dX10_measure_70 (by decide) ?_
        refine ok_isub dX10_measure_72 ?_
        refine ok_iload dX10_measure_73 rfl ?_
        refine ok_iadd dX10_measure_75 ?_
        refine ok_iconst 1 dX10_measure_76 (by decide) ?_
        refine ok_isub dX10_measure_77 ?_
        obtain ⟨c6, hs⟩  := hs
        obtain ⟨c7, hs⟩  := hs
        refine ok_iald dX10_measure_78 c6 c7 ?_
        refine ok_aload_n 0 dX10_measure_79 rfl rfl ?_
        refine ok_getr 10 17 dX10_measure_80 f10_53 rfl c5 ?_
        refine ok_iload dX10_measure_83 rfl ?_
        refine ok_iconst 1 dX10_measure_85 (by decide) ?_
        refine ok_isub dX10_measure_86 ?_
        obtain ⟨c8, hs⟩  := hs
        obtain ⟨c9, hs⟩  := hs
        refine ok_iald dX10_measure_87 c8 c9 ?_
        refine ok_aload_n 0 dX10_measure_88 rfl rfl ?_
        refine ok_getr 10 3 dX10_measure_89 f10_17 rfl c5 ?_
        refine ok_iload_n 2 dX10_measure_92 rfl rfl ?_
        refine ok_iload dX10_measure_93 rfl ?_
        refine ok_iadd dX10_measure_95 ?_
        refine ok_iconst 1 dX10_measure_96 (by decide) ?_
        refine ok_isub dX10_measure_97 ?_
        obtain ⟨c10, hs⟩  := hs
        obtain ⟨c11, hs⟩  := hs
        refine ok_iald dX10_measure_98 c10 c11 ?_
        refine ok_ic_ne 106 dX10_measure_99 (by decide) (fun z12 => ?_) (fun z12 => ?_)
        · refine ok_iconst 1 dX10_measure_106 (by decide) ?_
          refine ok_iadd dX10_measure_107 ?_
          exact k33 (((i (r v0 19) ((((20 * v4) - 20) + v5) - 1).toNatClampNeg) + 1)) (by simp only [if_neg z3, if_neg z4, if_neg z12])
        · refine ok_iconst 0 dX10_measure_102 (by decide) ?_
          refine ok_goto 107 dX10_measure_103 (by decide) ?_
          refine ok_iadd dX10_measure_107 ?_
          exact k33 (((i (r v0 19) ((((20 * v4) - 20) + v5) - 1).toNatClampNeg) + 0)) (by simp only [if_neg z3, if_neg z4, if_pos z12])
      · replace hs := hs.2 z4
        refine ok_iload dX10_measure_56 rfl ?_
        refine ok_goto 108 dX10_measure_58 (by decide) ?_
        exact k33 (v4) (by simp only [if_neg z3, if_pos z4])
    · replace hs := hs.2 z3
      refine ok_iload dX10_measure_46 rfl ?_
      refine ok_goto 108 dX10_measure_48 (by decide) ?_
      exact k33 (v5) (by simp only [if_pos z3])

set_option maxRecDepth 100000 in
set_option maxHeartbeats 4000000 in
theorem sX10_newline_0 {G : o_G} {d : Nat} {P : o_P} {i : o_I} {r : o_R} (v0 : Nat) (v1 : Int32) (v2 : Int32)
    (h : Ok G (d + 1) mX10_newline P 2 [some (.ref v0), some (.int v1), none, some (.int v2)] [] i r) :
    Ok G (d + 1) mX10_newline P 0 [some (.ref v0), some (.int v1), some (.int v2), none] [] i r := by
  refine ok_iload_n 2 dX10_newline_0 rfl rfl ?_
  refine ok_istore_n 3 dX10_newline_1 rfl (by decide) [some (.ref v0), some (.int v1), some (.int v2), some (.int v2)] rfl ?_
  refine ok_wk [some (.ref v0), some (.int v1), none, some (.int v2)] ⟨rfl, rfl, rfl, trivial⟩ ?_
  exact h

set_option maxRecDepth 100000 in
set_option maxHeartbeats 4000000 in
theorem sX10_newline_2 {G : o_G} {d : Nat} {P : o_P} {i : o_I} {r : o_R} (v0 : Nat) (v1 : Int32) (v3 : Int32)
    (h : o_O G v0 10 ∧ SpI G d mX10_look [.ref v0, .int v1, .int v3] (fun x2 i2 => ((x2 = 10 → P (some (.int v3)) i2 r) ∧ (¬ x2 = 10 → ∀ x4 : Int32, x4 = v3 + 1 → Ok G (d + 1) mX10_newline P 2 [some (.ref v0), some (.int v1), none, some (.int x4)] [] i2 r))) i r) :
    Ok G (d + 1) mX10_newline P 2 [some (.ref v0), some (.int v1), none, some (.int v3)] [] i r := by
  refine ok_aload_n 0 dX10_newline_2 rfl rfl ?_
  refine ok_iload_n 1 dX10_newline_3 rfl rfl ?_
  refine ok_iload_n 3 dX10_newline_4 rfl rfl ?_
  obtain ⟨c1, h⟩ := h
  refine ok_cVi (rest := []) o_rc 10 [.int v1, .int v3] dX10_newline_5 k10_93 c1 rfl rfl (Nat.le_of_ble_eq_true rfl) h (fun x2 i2 h => ?_)
  refine ok_bipush 10 dX10_newline_8 (by decide) ?_
  refine ok_ic_eq 19 dX10_newline_10 (by decide) (fun z3 => ?_) (fun z3 => ?_)
  · replace h := h.1 z3
    refine ok_iload_n 3 dX10_newline_19 rfl rfl ?_
    exact ok_iret .int dX10_newline_20 rfl rfl h
  · replace h := h.2 z3
    refine ok_eqi (v3 + 1) (fun x4 ex4 => ?_)
    replace h := h x4 ex4
    refine ok_iinc 1 x4 dX10_newline_13 rfl (by decide) ex4 (by decide) [some (.ref v0), some (.int v1), none, some (.int x4)] rfl ?_
    refine ok_goto 2 dX10_newline_16 (by decide) ?_
    exact h

set_option maxRecDepth 100000 in
set_option maxHeartbeats 4000000 in
theorem sX10_out_0 {G : o_G} {d : Nat} {P : o_P} {i : o_I} {r : o_R} (v0 : Nat) (v1 : Int32)
    (h : o_O G v0 10 ∧ (∀ x3 : Int32, x3 = (if (i v0 38) = (i v0 39) then v1 else (i v0 40)) → ∀ i4 : o_I, i4 = o_up i v0 40 x3 → ∀ i5 : o_I, i5 = o_up i4 v0 38 ((i4 v0 38) + 1) → P none i5 r)) :
    Ok G (d + 1) mX10_out P 0 [some (.ref v0), some (.int v1)] [] i r := by
  refine ok_aload_n 0 dX10_out_0 rfl rfl ?_
  refine ok_aload_n 0 dX10_out_1 rfl rfl ?_
  obtain ⟨c1, h⟩ := h
  refine ok_geti 10 38 dX10_out_2 f10_223 rfl c1 ?_
  refine ok_aload_n 0 dX10_out_5 rfl rfl ?_
  refine ok_geti 10 39 dX10_out_6 f10_226 rfl c1 ?_
  have k6 : ∀ x3 : Int32, x3 = (if (i v0 38) = (i v0 39) then v1 else (i v0 40)) → Ok G (d + 1) mX10_out P 20 [some (.ref v0), none] [.int x3, .ref v0] i r := by
    intro x3 ex3
    replace h := h x3 ex3
    refine ok_puti 10 40 .int dX10_out_20 f10_229 rfl rfl (by decide +kernel) rfl rfl c1 ?_
    refine ok_nmi (fun i4 ei4 => ?_)
    replace h := h i4 ei4
    refine ok_aload_n 0 dX10_out_23 rfl rfl ?_
    refine ok_dup dX10_out_24 rfl ?_
    refine ok_geti 10 38 dX10_out_25 f10_223 rfl c1 ?_
    refine ok_iconst 1 dX10_out_28 (by decide) ?_
    refine ok_iadd dX10_out_29 ?_
    refine ok_puti 10 38 .int dX10_out_30 f10_223 rfl rfl (by decide +kernel) rfl rfl c1 ?_
    refine ok_nmi (fun i5 ei5 => ?_)
    replace h := h i5 ei5
    exact ok_vret dX10_out_33 rfl h
  clear h
  refine ok_ic_ne 16 dX10_out_9 (by decide) (fun z2 => ?_) (fun z2 => ?_)
  · refine ok_aload_n 0 dX10_out_16 rfl rfl ?_
    refine ok_geti 10 40 dX10_out_17 f10_229 rfl c1 ?_
    refine ok_wk [some (.ref v0), none] ⟨rfl, trivial⟩ ?_
    exact k6 ((i v0 40)) (by simp only [if_neg z2])
  · refine ok_iload_n 1 dX10_out_12 rfl rfl ?_
    refine ok_goto 20 dX10_out_13 (by decide) ?_
    refine ok_wk [some (.ref v0), none] ⟨rfl, trivial⟩ ?_
    exact k6 (v1) (by simp only [if_pos z2])

set_option maxRecDepth 100000 in
set_option maxHeartbeats 4000000 in
theorem sX10_outAlternative_0 {G : o_G} {d : Nat} {P : o_P} {i : o_I} {r : o_R} (v0 : Nat) (v1 : Int32) (v2 : Int32)
    (h : o_O G v0 10 ∧ o_Y G (r v0 32) 1 ∧ vp_in v1 (o_len G (r v0 32)) ∧ ∀ x4 : Int32, x4 = (i (r v0 32) v1.toNatClampNeg) → ((v1 ≤ 1 → Ok G (d + 1) mX10_outAlternative P 18 [some (.ref v0), none, some (.int v2), some (.int x4)] [] i r) ∧ (¬ v1 ≤ 1 → SpV G d mX10_out [.ref v0, .int 44] (fun i6 => Ok G (d + 1) mX10_outAlternative P 18 [some (.ref v0), none, some (.int v2), some (.int x4)] [] i6 r) i r))) :
    Ok G (d + 1) mX10_outAlternative P 0 [some (.ref v0), some (.int v1), some (.int v2), none] [] i r := by
  refine ok_aload_n 0 dX10_outAlternative_0 rfl rfl ?_
  obtain ⟨c1, h⟩ := h
  refine ok_getr 10 32 dX10_outAlternative_1 f10_80 rfl c1 ?_
  refine ok_iload_n 1 dX10_outAlternative_4 rfl rfl ?_
  obtain ⟨c2, h⟩ := h
  obtain ⟨c3, h⟩ := h
  refine ok_iald dX10_outAlternative_5 c2 c3 ?_
  refine ok_topi (fun x4 ex4 => ?_)
  replace h := h x4 ex4
  refine ok_istore_n 3 dX10_outAlternative_6 rfl (by decide) [some (.ref v0), some (.int v1), some (.int v2), some (.int x4)] rfl ?_
  refine ok_iload_n 1 dX10_outAlternative_7 rfl rfl ?_
  refine ok_iconst 1 dX10_outAlternative_8 (by decide) ?_
  refine ok_ic_le 18 dX10_outAlternative_9 (by decide) (fun z5 => ?_) (fun z5 => ?_)
  · replace h := h.1 z5
    refine ok_wk [some (.ref v0), none, some (.int v2), some (.int x4)] ⟨rfl, rfl, rfl, trivial⟩ ?_
    exact h
  · replace h := h.2 z5
    refine ok_aload_n 0 dX10_outAlternative_12 rfl rfl ?_
    refine ok_bipush 44 dX10_outAlternative_13 (by decide) ?_
    refine ok_cVv (rest := []) o_rc 10 [.int 44] dX10_outAlternative_15 k10_232 c1 rfl rfl (Nat.le_of_ble_eq_true rfl) h (fun i6 h => ?_)
    refine ok_wk [some (.ref v0), none, some (.int v2), some (.int x4)] ⟨rfl, rfl, rfl, trivial⟩ ?_
    exact h

set_option maxRecDepth 100000 in
set_option maxHeartbeats 4000000 in
theorem sX10_outAlternative_18 {G : o_G} {d : Nat} {P : o_P} {i : o_I} {r : o_R} (v0 : Nat) (v2 : Int32) (v3 : Int32)
    (h : o_O G v0 10 ∧ ((¬ (i v0 28) = 0 → o_Y G (r v0 3) 1 ∧ vp_in (i v0 29) (o_len G (r v0 3)) ∧ SpV G d mX10_outBase [.ref v0, .int (i (r v0 3) (i v0 29).toNatClampNeg)] (fun i5 => ((v3 < 10 → Ok G (d + 1) mX10_outAlternative P 55 [some (.ref v0), none, some (.int v2), some (.int v3)] [] i5 r) ∧ (¬ v3 < 10 → SpV G d mX10_outGain [.ref v0, .int v3] (fun i7 => Ok G (d + 1) mX10_outAlternative P 55 [some (.ref v0), none, some (.int v2), some (.int v3)] [] i7 r) i5 r))) i r) ∧ ((i v0 28) = 0 → SpV G d mX10_outBase [.ref v0, .int v3] (fun i8 => P none i8 r) i r))) :
    Ok G (d + 1) mX10_outAlternative P 18 [some (.ref v0), none, some (.int v2), some (.int v3)] [] i r := by
  refine ok_aload_n 0 dX10_outAlternative_18 rfl rfl ?_
  obtain ⟨c1, h⟩ := h
  refine ok_geti 10 28 dX10_outAlternative_19 f10_149 rfl c1 ?_
  refine ok_if_ne 31 dX10_outAlternative_22 (by decide) (fun z2 => ?_) (fun z2 => ?_)
  · replace h := h.1 z2
    refine ok_aload_n 0 dX10_outAlternative_31 rfl rfl ?_
    refine ok_aload_n 0 dX10_outAlternative_32 rfl rfl ?_
    refine ok_getr 10 3 dX10_outAlternative_33 f10_17 rfl c1 ?_
    refine ok_aload_n 0 dX10_outAlternative_36 rfl rfl ?_
    refine ok_geti 10 29 dX10_outAlternative_37 f10_173 rfl c1 ?_
    obtain ⟨c3, h⟩ := h
    obtain ⟨c4, h⟩ := h
    refine ok_iald dX10_outAlternative_40 c3 c4 ?_
    refine ok_cVv (rest := []) o_rc 10 [.int (i (r v0 3) (i v0 29).toNatClampNeg)] dX10_outAlternative_41 k10_235 c1 rfl rfl (Nat.le_of_ble_eq_true rfl) h (fun i5 h => ?_)
    refine ok_iload_n 3 dX10_outAlternative_44 rfl rfl ?_
    refine ok_bipush 10 dX10_outAlternative_45 (by decide) ?_
    refine ok_ic_lt 55 dX10_outAlternative_47 (by decide) (fun z6 => ?_) (fun z6 => ?_)
    · replace h := h.1 z6
      exact h
    · replace h := h.2 z6
      refine ok_aload_n 0 dX10_outAlternative_50 rfl rfl ?_
      refine ok_iload_n 3 dX10_outAlternative_51 rfl rfl ?_
      refine ok_cVv (rest := []) o_rc 10 [.int v3] dX10_outAlternative_52 k10_242 c1 rfl rfl (Nat.le_of_ble_eq_true rfl) h (fun i7 h => ?_)
      exact h
  · replace h := h.2 z2
    refine ok_aload_n 0 dX10_outAlternative_25 rfl rfl ?_
    refine ok_iload_n 3 dX10_outAlternative_26 rfl rfl ?_
    refine ok_cVv (rest := []) o_rc 10 [.int v3] dX10_outAlternative_27 k10_235 c1 rfl rfl (Nat.le_of_ble_eq_true rfl) h (fun i8 h => ?_)
    exact ok_vret dX10_outAlternative_30 rfl h

set_option maxRecDepth 100000 in
set_option maxHeartbeats 4000000 in
theorem sX10_outAlternative_55 {G : o_G} {d : Nat} {P : o_P} {i : o_I} {r : o_R} (v0 : Nat) (v2 : Int32) (v3 : Int32)
    (h : o_O G v0 10 ∧ (∀ x3 : Int32, x3 = (if 10 ≤ v3 then 0 else v3) → SpV G d mX10_outBases [.ref v0, .int (((i v0 29) + 1) + x3), .int ((i v0 29) + v2)] (fun i4 => P none i4 r) i r)) :
    Ok G (d + 1) mX10_outAlternative P 55 [some (.ref v0), none, some (.int v2), some (.int v3)] [] i r := by
  refine ok_aload_n 0 dX10_outAlternative_55 rfl rfl ?_
  refine ok_aload_n 0 dX10_outAlternative_56 rfl rfl ?_
  obtain ⟨c1, h⟩ := h
  refine ok_geti 10 29 dX10_outAlternative_57 f10_173 rfl c1 ?_
  refine ok_iconst 1 dX10_outAlternative_60 (by decide) ?_
  refine ok_iadd dX10_outAlternative_61 ?_
  refine ok_iload_n 3 dX10_outAlternative_62 rfl rfl ?_
  refine ok_bipush 10 dX10_outAlternative_63 (by decide) ?_
  have k5 : ∀ x3 : Int32, x3 = (if 10 ≤ v3 then 0 else v3) → Ok G (d + 1) mX10_outAlternative P 73 [some (.ref v0), none, some (.int v2), none] [.int x3, .int ((i v0 29) + 1), .ref v0] i r := by
    intro x3 ex3
    replace h := h x3 ex3
    refine ok_iadd dX10_outAlternative_73 ?_
    refine ok_aload_n 0 dX10_outAlternative_74 rfl rfl ?_
    refine ok_geti 10 29 dX10_outAlternative_75 f10_173 rfl c1 ?_
    refine ok_iload_n 2 dX10_outAlternative_78 rfl rfl ?_
    refine ok_iadd dX10_outAlternative_79 ?_
    refine ok_cVv (rest := []) o_rc 10 [.int (((i v0 29) + 1) + x3), .int ((i v0 29) + v2)] dX10_outAlternative_80 k10_245 c1 rfl rfl (Nat.le_of_ble_eq_true rfl) h (fun i4 h => ?_)
    exact ok_vret dX10_outAlternative_83 rfl h
  clear h
  refine ok_ic_ge 72 dX10_outAlternative_65 (by decide) (fun z2 => ?_) (fun z2 => ?_)
  · refine ok_iconst 0 dX10_outAlternative_72 (by decide) ?_
    refine ok_wk [some (.ref v0), none, some (.int v2), none] ⟨rfl, rfl, trivial⟩ ?_
    exact k5 (0) (by simp only [if_pos z2])
  · refine ok_iload_n 3 dX10_outAlternative_68 rfl rfl ?_
    refine ok_goto 73 dX10_outAlternative_69 (by decide) ?_
    refine ok_wk [some (.ref v0), none, some (.int v2), none] ⟨rfl, rfl, trivial⟩ ?_
    exact k5 (v3) (by simp only [if_neg z2])

set_option maxRecDepth 100000 in
set_option maxHeartbeats 4000000 in
theorem sX10_outBase_0 {G : o_G} {d : Nat} {P : o_P} {i : o_I} {r : o_R} (v0 : Nat) (v1 : Int32)
    (h : (∀ x4 : Int32, x4 = (if v1 = 0 then 65 else (if v1 = 1 then 67 else (if v1 = 2 then 71 else 84))) → o_O G v0 10 ∧ SpV G d mX10_out [.ref v0, .int x4] (fun i6 => P none i6 r) i r)) :
    Ok G (d + 1) mX10_outBase P 0 [some (.ref v0), some (.int v1)] [] i r := by
  refine ok_aload_n 0 dX10_outBase_0 rfl rfl ?_
  refine ok_iload_n 1 dX10_outBase_1 rfl rfl ?_
  have k7 : ∀ x4 : Int32, x4 = (if v1 = 0 then 65 else (if v1 = 1 then 67 else (if v1 = 2 then 71 else 84))) → Ok G (d + 1) mX10_outBase P 32 [none, none] [.int x4, .ref v0] i r := by
    intro x4 ex4
    replace h := h x4 ex4
    obtain ⟨c5, h⟩ := h
    refine ok_cVv (rest := []) o_rc 10 [.int x4] dX10_outBase_32 k10_232 c5 rfl rfl (Nat.le_of_ble_eq_true rfl) h (fun i6 h => ?_)
    exact ok_vret dX10_outBase_35 rfl h
  clear h
  refine ok_if_ne 10 dX10_outBase_2 (by decide) (fun z1 => ?_) (fun z1 => ?_)
  · refine ok_iload_n 1 dX10_outBase_10 rfl rfl ?_
    refine ok_iconst 1 dX10_outBase_11 (by decide) ?_
    refine ok_ic_ne 20 dX10_outBase_12 (by decide) (fun z2 => ?_) (fun z2 => ?_)
    · refine ok_iload_n 1 dX10_outBase_20 rfl rfl ?_
      refine ok_iconst 2 dX10_outBase_21 (by decide) ?_
      refine ok_ic_ne 30 dX10_outBase_22 (by decide) (fun z3 => ?_) (fun z3 => ?_)
      · refine ok_bipush 84 dX10_outBase_30 (by decide) ?_
        refine ok_wk [none, none] trivial ?_
        exact k7 (84) (by simp only [if_neg z1, if_neg z2, if_neg z3])
      · refine ok_bipush 71 dX10_outBase_25 (by decide) ?_
        refine ok_goto 32 dX10_outBase_27 (by decide) ?_
        refine ok_wk [none, none] trivial ?_
        exact k7 (71) (by simp only [if_neg z1, if_neg z2, if_pos z3])
    · refine ok_bipush 67 dX10_outBase_15 (by decide) ?_
      refine ok_goto 32 dX10_outBase_17 (by decide) ?_
      refine ok_wk [none, none] trivial ?_
      exact k7 (67) (by simp only [if_neg z1, if_pos z2])
  · refine ok_bipush 65 dX10_outBase_5 (by decide) ?_
    refine ok_goto 32 dX10_outBase_7 (by decide) ?_
    refine ok_wk [none, none] trivial ?_
    exact k7 (65) (by simp only [if_pos z1])

set_option maxRecDepth 100000 in
set_option maxHeartbeats 4000000 in
theorem sX10_outBases_0 {G : o_G} {d : Nat} {P : o_P} {i : o_I} {r : o_R} (v0 : Nat) (v1 : Int32) (v2 : Int32)
    (h : Ok G (d + 1) mX10_outBases P 2 [some (.ref v0), none, some (.int v2), some (.int v1)] [] i r) :
    Ok G (d + 1) mX10_outBases P 0 [some (.ref v0), some (.int v1), some (.int v2), none] [] i r := by
  refine ok_iload_n 1 dX10_outBases_0 rfl rfl ?_
  refine ok_istore_n 3 dX10_outBases_1 rfl (by decide) [some (.ref v0), some (.int v1), some (.int v2), some (.int v1)] rfl ?_
  refine ok_wk [some (.ref v0), none, some (.int v2), some (.int v1)] ⟨rfl, rfl, rfl, trivial⟩ ?_
  exact h

set_option maxRecDepth 100000 in
set_option maxHeartbeats 4000000 in
theorem sX10_outBases_2 {G : o_G} {d : Nat} {P : o_P} {i : o_I} {r : o_R} (v0 : Nat) (v2 : Int32) (v3 : Int32)
    (h : ((v2 < v3 → P none i r) ∧ (¬ v2 < v3 → o_O G v0 10 ∧ o_Y G (r v0 3) 1 ∧ vp_in v3 (o_len G (r v0 3)) ∧ SpV G d mX10_outBase [.ref v0, .int (i (r v0 3) v3.toNatClampNeg)] (fun i5 => ∀ x6 : Int32, x6 = v3 + 1 → Ok G (d + 1) mX10_outBases P 2 [some (.ref v0), none, some (.int v2), some (.int x6)] [] i5 r) i r))) :
    Ok G (d + 1) mX10_outBases P 2 [some (.ref v0), none, some (.int v2), some (.int v3)] [] i r := by
  refine ok_iload_n 3 dX10_outBases_2 rfl rfl ?_
  refine ok_iload_n 2 dX10_outBases_3 rfl rfl ?_
  refine ok_ic_gt 23 dX10_outBases_4 (by decide) (fun z1 => ?_) (fun z1 => ?_)
  · replace h := h.1 z1
    exact ok_vret dX10_outBases_23 rfl h
  · replace h := h.2 z1
    refine ok_aload_n 0 dX10_outBases_7 rfl rfl ?_
    refine ok_aload_n 0 dX10_outBases_8 rfl rfl ?_
    obtain ⟨c2, h⟩ := h
    refine ok_getr 10 3 dX10_outBases_9 f10_17 rfl c2 ?_
    refine ok_iload_n 3 dX10_outBases_12 rfl rfl ?_
    obtain ⟨c3, h⟩ := h
    obtain ⟨c4, h⟩ := h
    refine ok_iald dX10_outBases_13 c3 c4 ?_
    refine ok_cVv (rest := []) o_rc 10 [.int (i (r v0 3) v3.toNatClampNeg)] dX10_outBases_14 k10_235 c2 rfl rfl (Nat.le_of_ble_eq_true rfl) h (fun i5 h => ?_)
    refine ok_eqi (v3 + 1) (fun x6 ex6 => ?_)
    replace h := h x6 ex6
    refine ok_iinc 1 x6 dX10_outBases_17 rfl (by decide) ex6 (by decide) [some (.ref v0), none, some (.int v2), some (.int x6)] rfl ?_
    refine ok_goto 2 dX10_outBases_20 (by decide) ?_
    exact h

set_option maxRecDepth 100000 in
set_option maxHeartbeats 4000000 in
theorem sX10_outGain_0 {G : o_G} {d : Nat} {P : o_P} {i : o_I} {r : o_R} (v0 : Nat) (v1 : Int32)
    (h : (∀ x3 : Int32, x3 = (if 20 ≤ v1 then (if 40 ≤ v1 then 3 else 2) else 1) → (∀ x6 : Int32, x6 = (if x3 = 1 then 10 else (if x3 = 2 then 20 else 40)) → ∀ x7 : Int32, x7 = (v1 - x6) → (∀ x10 : Int32, x10 = (if x3 = 1 then 1 else (if x3 = 2 then 4 else 16)) → Ok G (d + 1) mX10_outGain P 69 [some (.ref v0), none, none, some (.int x7), some (.int x10)] [] i r)))) :
    Ok G (d + 1) mX10_outGain P 0 [some (.ref v0), some (.int v1), none, none, none] [] i r := by
  refine ok_iload_n 1 dX10_outGain_0 rfl rfl ?_
  refine ok_bipush 20 dX10_outGain_1 (by decide) ?_
  have k13 : ∀ x3 : Int32, x3 = (if 20 ≤ v1 then (if 40 ≤ v1 then 3 else 2) else 1) → Ok G (d + 1) mX10_outGain P 21 [some (.ref v0), some (.int v1), none, none, none] [.int x3] i r := by
    intro x3 ex3
    replace h := h x3 ex3
    refine ok_istore_n 2 dX10_outGain_21 rfl (by decide) [some (.ref v0), some (.int v1), some (.int x3), none, none] rfl ?_
    refine ok_iload_n 1 dX10_outGain_22 rfl rfl ?_
    refine ok_iload_n 2 dX10_outGain_23 rfl rfl ?_
    refine ok_iconst 1 dX10_outGain_24 (by decide) ?_
    have k12 : ∀ x6 : Int32, x6 = (if x3 = 1 then 10 else (if x3 = 2 then 20 else 40)) → Ok G (d + 1) mX10_outGain P 45 [some (.ref v0), none, some (.int x3), none, none] [.int x6, .int v1] i r := by
      intro x6 ex6
      replace h := h x6 ex6
      refine ok_isub dX10_outGain_45 ?_
      refine ok_topi (fun x7 ex7 => ?_)
      replace h := h x7 ex7
      refine ok_istore_n 3 dX10_outGain_46 rfl (by decide) [some (.ref v0), none, some (.int x3), some (.int x7), none] rfl ?_
      refine ok_iload_n 2 dX10_outGain_47 rfl rfl ?_
      refine ok_iconst 1 dX10_outGain_48 (by decide) ?_
      have k11 : ∀ x10 : Int32, x10 = (if x3 = 1 then 1 else (if x3 = 2 then 4 else 16)) → Ok G (d + 1) mX10_outGain P 67 [some (.ref v0), none, none, some (.int x7), none] [.int x10] i r := by
        intro x10 ex10
        replace h := h x10 ex10
        refine ok_istore dX10_outGain_67 (by decide) [some (.ref v0), none, none, some (.int x7), some (.int x10)] rfl ?_
        exact h
      clear h
      refine ok_ic_ne 56 dX10_outGain_49 (by decide) (fun z8 => ?_) (fun z8 => ?_)
      · refine ok_iload_n 2 dX10_outGain_56 rfl rfl ?_
        refine ok_iconst 2 dX10_outGain_57 (by decide) ?_
        refine ok_ic_ne 65 dX10_outGain_58 (by decide) (fun z9 => ?_) (fun z9 => ?_)
        · refine ok_bipush 16 dX10_outGain_65 (by decide) ?_
          refine ok_wk [some (.ref v0), none, none, some (.int x7), none] ⟨rfl, rfl, trivial⟩ ?_
          exact k11 (16) (by simp only [if_neg z8, if_neg z9])
        · refine ok_iconst 4 dX10_outGain_61 (by decide) ?_
          refine ok_goto 67 dX10_outGain_62 (by decide) ?_
          refine ok_wk [some (.ref v0), none, none, some (.int x7), none] ⟨rfl, rfl, trivial⟩ ?_
          exact k11 (4) (by simp only [if_neg z8, if_pos z9])
      · refine ok_iconst 1 dX10_outGain_52 (by decide) ?_
        refine ok_goto 67 dX10_outGain_53 (by decide) ?_
        refine ok_wk [some (.ref v0), none, none, some (.int x7), none] ⟨rfl, rfl, trivial⟩ ?_
        exact k11 (1) (by simp only [if_pos z8])
    clear h
    refine ok_ic_ne 33 dX10_outGain_25 (by decide) (fun z4 => ?_) (fun z4 => ?_)
    · refine ok_iload_n 2 dX10_outGain_33 rfl rfl ?_
      refine ok_iconst 2 dX10_outGain_34 (by decide) ?_
      refine ok_ic_ne 43 dX10_outGain_35 (by decide) (fun z5 => ?_) (fun z5 => ?_)
      · refine ok_bipush 40 dX10_outGain_43 (by decide) ?_
        refine ok_wk [some (.ref v0), none, some (.int x3), none, none] ⟨rfl, rfl, trivial⟩ ?_
        exact k12 (40) (by simp only [if_neg z4, if_neg z5])
      · refine ok_bipush 20 dX10_outGain_38 (by decide) ?_
        refine ok_goto 45 dX10_outGain_40 (by decide) ?_
        refine ok_wk [some (.ref v0), none, some (.int x3), none, none] ⟨rfl, rfl, trivial⟩ ?_
        exact k12 (20) (by simp only [if_neg z4, if_pos z5])
    · refine ok_bipush 10 dX10_outGain_28 (by decide) ?_
      refine ok_goto 45 dX10_outGain_30 (by decide) ?_
      refine ok_wk [some (.ref v0), none, some (.int x3), none, none] ⟨rfl, rfl, trivial⟩ ?_
      exact k12 (10) (by simp only [if_pos z4])
  clear h
  refine ok_ic_ge 10 dX10_outGain_3 (by decide) (fun z1 => ?_) (fun z1 => ?_)
  · refine ok_iload_n 1 dX10_outGain_10 rfl rfl ?_
    refine ok_bipush 40 dX10_outGain_11 (by decide) ?_
    refine ok_ic_ge 20 dX10_outGain_13 (by decide) (fun z2 => ?_) (fun z2 => ?_)
    · refine ok_iconst 3 dX10_outGain_20 (by decide) ?_
      exact k13 (3) (by simp only [if_pos z1, if_pos z2])
    · refine ok_iconst 2 dX10_outGain_16 (by decide) ?_
      refine ok_goto 21 dX10_outGain_17 (by decide) ?_
      exact k13 (2) (by simp only [if_pos z1, if_neg z2])
  · refine ok_iconst 1 dX10_outGain_6 (by decide) ?_
    refine ok_goto 21 dX10_outGain_7 (by decide) ?_
    exact k13 (1) (by simp only [if_neg z1])

set_option maxRecDepth 100000 in
set_option maxHeartbeats 4000000 in
theorem sX10_outGain_69 {G : o_G} {d : Nat} {P : o_P} {i : o_I} {r : o_R} (v0 : Nat) (v3 : Int32) (v4 : Int32)
    (h : ((v4 ≤ 0 → P none i r) ∧ (¬ v4 ≤ 0 → ¬ v4 = 0 ∧ o_O G v0 10 ∧ SpV G d mX10_outBase [.ref v0, .int ((v3 / v4) - (v3 / v4) / 4 * 4)] (fun i4 => ∀ x5 : Int32, x5 = (v4 / 4) → Ok G (d + 1) mX10_outGain P 69 [some (.ref v0), none, none, some (.int v3), some (.int x5)] [] i4 r) i r))) :
    Ok G (d + 1) mX10_outGain P 69 [some (.ref v0), none, none, some (.int v3), some (.int v4)] [] i r := by
  refine ok_iload dX10_outGain_69 rfl ?_
  refine ok_if_le 93 dX10_outGain_71 (by decide) (fun z1 => ?_) (fun z1 => ?_)
  · replace h := h.1 z1
    exact ok_vret dX10_outGain_93 rfl h
  · replace h := h.2 z1
    refine ok_aload_n 0 dX10_outGain_74 rfl rfl ?_
    refine ok_iload_n 3 dX10_outGain_75 rfl rfl ?_
    refine ok_iload dX10_outGain_76 rfl ?_
    obtain ⟨c2, h⟩ := h
    refine ok_idiv dX10_outGain_78 c2 ?_
    refine ok_iconst 4 dX10_outGain_79 (by decide) ?_
    refine ok_irem dX10_outGain_80 (by decide) ?_
    obtain ⟨c3, h⟩ := h
    refine ok_cVv (rest := []) o_rc 10 [.int ((v3 / v4) - (v3 / v4) / 4 * 4)] dX10_outGain_81 k10_235 c3 rfl rfl (Nat.le_of_ble_eq_true rfl) h (fun i4 h => ?_)
    refine ok_iload dX10_outGain_84 rfl ?_
    refine ok_iconst 4 dX10_outGain_86 (by decide) ?_
    refine ok_idiv dX10_outGain_87 (by decide) ?_
    refine ok_topi (fun x5 ex5 => ?_)
    replace h := h x5 ex5
    refine ok_istore dX10_outGain_88 (by decide) [some (.ref v0), none, none, some (.int v3), some (.int x5)] rfl ?_
    refine ok_goto 69 dX10_outGain_90 (by decide) ?_
    exact h


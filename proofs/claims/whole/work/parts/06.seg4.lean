set_option maxRecDepth 100000 in
set_option maxHeartbeats 4000000 in
theorem sX10_outHead_0 {G : o_G} {d : Nat} {P : o_P} {i : o_I} {r : o_R} (v0 : Nat)
    (h : o_O G v0 10 ∧ SpV G d mX10_outSix [.ref v0, .int 35, .int 35, .int 102, .int 105, .int 108, .int 101] (fun i2 => SpV G d mX10_outSix [.ref v0, .int 102, .int 111, .int 114, .int 109, .int 97, .int 116] (fun i3 => SpV G d mX10_outSix [.ref v0, .int 61, .int 86, .int 67, .int 70, .int 118, .int 52] (fun i4 => SpV G d mX10_outSix [.ref v0, .int 46, .int 51, .int 10, .int 35, .int 67, .int 72] (fun i5 => SpV G d mX10_outSix [.ref v0, .int 82, .int 79, .int 77, .int 9, .int 80, .int 79] (fun i6 => SpV G d mX10_outSix [.ref v0, .int 83, .int 9, .int 73, .int 68, .int 9, .int 82] (fun i7 => SpV G d mX10_outSix [.ref v0, .int 69, .int 70, .int 9, .int 65, .int 76, .int 84] (fun i8 => SpV G d mX10_outSix [.ref v0, .int 9, .int 81, .int 85, .int 65, .int 76, .int 9] (fun i9 => SpV G d mX10_outSix [.ref v0, .int 70, .int 73, .int 76, .int 84, .int 69, .int 82] (fun i10 => SpV G d mX10_outSix [.ref v0, .int 9, .int 73, .int 78, .int 70, .int 79, .int 9] (fun i11 => SpV G d mX10_outSix [.ref v0, .int 70, .int 79, .int 82, .int 77, .int 65, .int 84] (fun i12 => SpV G d mX10_outSix [.ref v0, .int 9, .int 83, .int 10, .int 0, .int 0, .int 0] (fun i13 => P none i13 r) i12 r) i11 r) i10 r) i9 r) i8 r) i7 r) i6 r) i5 r) i4 r) i3 r) i2 r) i r) :
    Ok G (d + 1) mX10_outHead P 0 [some (.ref v0)] [] i r := by
  refine ok_aload_n 0 dX10_outHead_0 rfl rfl ?_
  refine ok_bipush 35 dX10_outHead_1 (by decide) ?_
  refine ok_bipush 35 dX10_outHead_3 (by decide) ?_
  refine ok_bipush 102 dX10_outHead_5 (by decide) ?_
  refine ok_bipush 105 dX10_outHead_7 (by decide) ?_
  refine ok_bipush 108 dX10_outHead_9 (by decide) ?_
  refine ok_bipush 101 dX10_outHead_11 (by decide) ?_
  obtain ⟨c1, h⟩ := h
  refine ok_cVv (rest := []) o_rc 10 [.int 35, .int 35, .int 102, .int 105, .int 108, .int 101] dX10_outHead_13 k10_238 c1 rfl rfl (Nat.le_of_ble_eq_true rfl) h (fun i2 h => ?_)
  refine ok_aload_n 0 dX10_outHead_16 rfl rfl ?_
  refine ok_bipush 102 dX10_outHead_17 (by decide) ?_
  refine ok_bipush 111 dX10_outHead_19 (by decide) ?_
  refine ok_bipush 114 dX10_outHead_21 (by decide) ?_
  refine ok_bipush 109 dX10_outHead_23 (by decide) ?_
  refine ok_bipush 97 dX10_outHead_25 (by decide) ?_
  refine ok_bipush 116 dX10_outHead_27 (by decide) ?_
  refine ok_cVv (rest := []) o_rc 10 [.int 102, .int 111, .int 114, .int 109, .int 97, .int 116] dX10_outHead_29 k10_238 c1 rfl rfl (Nat.le_of_ble_eq_true rfl) h (fun i3 h => ?_)
  refine ok_aload_n 0 dX10_outHead_32 rfl rfl ?_
  refine ok_bipush 61 dX10_outHead_33 (by decide) ?_
  refine ok_bipush 86 dX10_outHead_35 (by decide) ?_
  refine ok_bipush 67 dX10_outHead_37 (by decide) ?_
  refine ok_bipush 70 dX10_outHead_39 (by decide) ?_
  refine ok_bipush 118 dX10_outHead_41 (by decide) ?_
  refine ok_bipush 52 dX10_outHead_43 (by decide) ?_
  refine ok_cVv (rest := []) o_rc 10 [.int 61, .int 86, .int 67, .int 70, .int 118, .int 52] dX10_outHead_45 k10_238 c1 rfl rfl (Nat.le_of_ble_eq_true rfl) h (fun i4 h => ?_)
  refine ok_aload_n 0 dX10_outHead_48 rfl rfl ?_
  refine ok_bipush 46 dX10_outHead_49 (by decide) ?_
  refine ok_bipush 51 dX10_outHead_51 (by decide) ?_
  refine ok_bipush 10 dX10_outHead_53 (by decide) ?_
  refine ok_bipush 35 dX10_outHead_55 (by decide) ?_
  refine ok_bipush 67 dX10_outHead_57 (by decide) ?_
  refine ok_bipush 72 dX10_outHead_59 (by decide) ?_
  refine ok_cVv (rest := []) o_rc 10 [.int 46, .int 51, .int 10, .int 35, .int 67, .int 72] dX10_outHead_61 k10_238 c1 rfl rfl (Nat.le_of_ble_eq_true rfl) h (fun i5 h => ?_)
  refine ok_aload_n 0 dX10_outHead_64 rfl rfl ?_
  refine ok_bipush 82 dX10_outHead_65 (by decide) ?_
  refine ok_bipush 79 dX10_outHead_67 (by decide) ?_
  refine ok_bipush 77 dX10_outHead_69 (by decide) ?_
  refine ok_bipush 9 dX10_outHead_71 (by decide) ?_
  refine ok_bipush 80 dX10_outHead_73 (by decide) ?_
  refine ok_bipush 79 dX10_outHead_75 (by decide) ?_
  refine ok_cVv (rest := []) o_rc 10 [.int 82, .int 79, .int 77, .int 9, .int 80, .int 79] dX10_outHead_77 k10_238 c1 rfl rfl (Nat.le_of_ble_eq_true rfl) h (fun i6 h => ?_)
  refine ok_aload_n 0 dX10_outHead_80 rfl rfl ?_
  refine ok_bipush 83 dX10_outHead_81 (by decide) ?_
  refine ok_bipush 9 dX10_outHead_83 (by decide) ?_
  refine ok_bipush 73 dX10_outHead_85 (by decide) ?_
  refine ok_bipush 68 dX10_outHead_87 (by decide) ?_
  refine ok_bipush 9 dX10_outHead_89 (by decide) ?_
  refine ok_bipush 82 dX10_outHead_91 (by decide) ?_
  refine ok_cVv (rest := []) o_rc 10 [.int 83, .int 9, .int 73, .int 68, .int 9, .int 82] dX10_outHead_93 k10_238 c1 rfl rfl (Nat.le_of_ble_eq_true rfl) h (fun i7 h => ?_)
  refine ok_aload_n 0 dX10_outHead_96 rfl rfl ?_
  refine ok_bipush 69 dX10_outHead_97 (by decide) ?_
  refine ok_bipush 70 dX10_outHead_99 (by decide) ?_
  refine ok_bipush 9 dX10_outHead_101 (by decide) ?_
  refine ok_bipush 65 dX10_outHead_103 (by decide) ?_
  refine ok_bipush 76 dX10_outHead_105 (by decide) ?_
  refine ok_bipush 84 dX10_outHead_107 (by decide) ?_
  refine ok_cVv (rest := []) o_rc 10 [.int 69, .int 70, .int 9, .int 65, .int 76, .int 84] dX10_outHead_109 k10_238 c1 rfl rfl (Nat.le_of_ble_eq_true rfl) h (fun i8 h => ?_)
  refine ok_aload_n 0 dX10_outHead_112 rfl rfl ?_
  refine ok_bipush 9 dX10_outHead_113 (by decide) ?_
  refine ok_bipush 81 dX10_outHead_115 (by decide) ?_
  refine ok_bipush 85 dX10_outHead_117 (by decide) ?_
  refine ok_bipush 65 dX10_outHead_119 (by decide) ?_
  refine ok_bipush 76 dX10_outHead_121 (by decide) ?_
  refine ok_bipush 9 dX10_outHead_123 (by decide) ?_
  refine ok_cVv (rest := []) o_rc 10 [.int 9, .int 81, .int 85, .int 65, .int 76, .int 9] dX10_outHead_125 k10_238 c1 rfl rfl (Nat.le_of_ble_eq_true rfl) h (fun i9 h => ?_)
  refine ok_aload_n 0 dX10_outHead_128 rfl rfl ?_
  refine ok_bipush 70 dX10_outHead_129 (by decide) ?_
  refine ok_bipush 73 dX10_outHead_131 (by decide) ?_
  refine ok_bipush 76 dX10_outHead_133 (by decide) ?_
  refine ok_bipush 84 dX10_outHead_135 (by decide) ?_
  refine ok_bipush 69 dX10_outHead_137 (by decide) ?_
  refine ok_bipush 82 dX10_outHead_139 (by decide) ?_
  refine ok_cVv (rest := []) o_rc 10 [.int 70, .int 73, .int 76, .int 84, .int 69, .int 82] dX10_outHead_141 k10_238 c1 rfl rfl (Nat.le_of_ble_eq_true rfl) h (fun i10 h => ?_)
  refine ok_aload_n 0 dX10_outHead_144 rfl rfl ?_
  refine ok_bipush 9 dX10_outHead_145 (by decide) ?_
  refine ok_bipush 73 dX10_outHead_147 (by decide) ?_
  refine ok_bipush 78 dX10_outHead_149 (by decide) ?_
  refine ok_bipush 70 dX10_outHead_151 (by decide) ?_
  refine ok_bipush 79 dX10_outHead_153 (by decide) ?_
  refine ok_bipush 9 dX10_outHead_155 (by decide) ?_
  refine ok_cVv (rest := []) o_rc 10 [.int 9, .int 73, .int 78, .int 70, .int 79, .int 9] dX10_outHead_157 k10_238 c1 rfl rfl (Nat.le_of_ble_eq_true rfl) h (fun i11 h => ?_)
  refine ok_aload_n 0 dX10_outHead_160 rfl rfl ?_
  refine ok_bipush 70 dX10_outHead_161 (by decide) ?_
  refine ok_bipush 79 dX10_outHead_163 (by decide) ?_
  refine ok_bipush 82 dX10_outHead_165 (by decide) ?_
  refine ok_bipush 77 dX10_outHead_167 (by decide) ?_
  refine ok_bipush 65 dX10_outHead_169 (by decide) ?_
  refine ok_bipush 84 dX10_outHead_171 (by decide) ?_
  refine ok_cVv (rest := []) o_rc 10 [.int 70, .int 79, .int 82, .int 77, .int 65, .int 84] dX10_outHead_173 k10_238 c1 rfl rfl (Nat.le_of_ble_eq_true rfl) h (fun i12 h => ?_)
  refine ok_aload_n 0 dX10_outHead_176 rfl rfl ?_
  refine ok_bipush 9 dX10_outHead_177 (by decide) ?_
  refine ok_bipush 83 dX10_outHead_179 (by decide) ?_
  refine ok_bipush 10 dX10_outHead_181 (by decide) ?_
  refine ok_iconst 0 dX10_outHead_183 (by decide) ?_
  refine ok_iconst 0 dX10_outHead_184 (by decide) ?_
  refine ok_iconst 0 dX10_outHead_185 (by decide) ?_
  refine ok_cVv (rest := []) o_rc 10 [.int 9, .int 83, .int 10, .int 0, .int 0, .int 0] dX10_outHead_186 k10_238 c1 rfl rfl (Nat.le_of_ble_eq_true rfl) h (fun i13 h => ?_)
  exact ok_vret dX10_outHead_189 rfl h

set_option maxRecDepth 100000 in
set_option maxHeartbeats 4000000 in
theorem sX10_outLine_0 {G : o_G} {d : Nat} {P : o_P} {i : o_I} {r : o_R} (v0 : Nat)
    (h : o_O G v0 10 ∧ SpI G d mX10_greatestLoss [.ref v0] (fun x2 i2 => o_Y G (r v0 34) 1 ∧ vp_in (i2 v0 36) (o_len G (r v0 34)) ∧ ∀ x5 : Int32, x5 = (i2 (r v0 34) (i2 v0 36).toNatClampNeg) → Ok G (d + 1) mX10_outLine P 17 [some (.ref v0), some (.int x2), some (.int x5), some (.int 0)] [] i2 r) i r) :
    Ok G (d + 1) mX10_outLine P 0 [some (.ref v0), none, none, none] [] i r := by
  refine ok_aload_n 0 dX10_outLine_0 rfl rfl ?_
  obtain ⟨c1, h⟩ := h
  refine ok_cVi (rest := []) o_rc 10 [] dX10_outLine_1 k10_248 c1 rfl rfl (Nat.le_of_ble_eq_true rfl) h (fun x2 i2 h => ?_)
  refine ok_istore_n 1 dX10_outLine_4 rfl (by decide) [some (.ref v0), some (.int x2), none, none] rfl ?_
  refine ok_aload_n 0 dX10_outLine_5 rfl rfl ?_
  refine ok_getr 10 34 dX10_outLine_6 f10_86 rfl c1 ?_
  refine ok_aload_n 0 dX10_outLine_9 rfl rfl ?_
  refine ok_geti 10 36 dX10_outLine_10 f10_188 rfl c1 ?_
  obtain ⟨c3, h⟩ := h
  obtain ⟨c4, h⟩ := h
  refine ok_iald dX10_outLine_13 c3 c4 ?_
  refine ok_topi (fun x5 ex5 => ?_)
  replace h := h x5 ex5
  refine ok_istore_n 2 dX10_outLine_14 rfl (by decide) [some (.ref v0), some (.int x2), some (.int x5), none] rfl ?_
  refine ok_iconst 0 dX10_outLine_15 (by decide) ?_
  refine ok_istore_n 3 dX10_outLine_16 rfl (by decide) [some (.ref v0), some (.int x2), some (.int x5), some (.int 0)] rfl ?_
  exact h

set_option maxRecDepth 100000 in
set_option maxHeartbeats 4000000 in
theorem sX10_outLine_17 {G : o_G} {d : Nat} {P : o_P} {i : o_I} {r : o_R} (v0 : Nat) (v1 : Int32) (v2 : Int32) (v3 : Int32)
    (h : o_O G v0 10 ∧ (((i v0 4) ≤ v3 → SpV G d mX10_out [.ref v0, .int 9] (fun i3 => SpV G d mX10_outNumber [.ref v0, .int ((i3 v0 29) + 1)] (fun i4 => SpV G d mX10_outSix [.ref v0, .int 9, .int 46, .int 9, .int 0, .int 0, .int 0] (fun i5 => SpV G d mX10_outBases [.ref v0, .int (i5 v0 29), .int ((i5 v0 29) + v1)] (fun i6 => SpV G d mX10_out [.ref v0, .int 9] (fun i7 => Ok G (d + 1) mX10_outLine P 92 [some (.ref v0), some (.int v1), some (.int v2), some (.int 1)] [] i7 r) i6 r) i5 r) i4 r) i3 r) i r) ∧ (¬ (i v0 4) ≤ v3 → o_Y G (r v0 5) 2 ∧ vp_in v3 (o_len G (r v0 5)) ∧ SpV G d mX10_out [.ref v0, .int (i (r v0 5) v3.toNatClampNeg)] (fun i10 => ∀ x11 : Int32, x11 = v3 + 1 → Ok G (d + 1) mX10_outLine P 17 [some (.ref v0), some (.int v1), some (.int v2), some (.int x11)] [] i10 r) i r))) :
    Ok G (d + 1) mX10_outLine P 17 [some (.ref v0), some (.int v1), some (.int v2), some (.int v3)] [] i r := by
  refine ok_iload_n 3 dX10_outLine_17 rfl rfl ?_
  refine ok_aload_n 0 dX10_outLine_18 rfl rfl ?_
  obtain ⟨c1, h⟩ := h
  refine ok_geti 10 4 dX10_outLine_19 f10_116 rfl c1 ?_
  refine ok_ic_ge 41 dX10_outLine_22 (by decide) (fun z2 => ?_) (fun z2 => ?_)
  · replace h := h.1 z2
    refine ok_aload_n 0 dX10_outLine_41 rfl rfl ?_
    refine ok_bipush 9 dX10_outLine_42 (by decide) ?_
    refine ok_cVv (rest := []) o_rc 10 [.int 9] dX10_outLine_44 k10_232 c1 rfl rfl (Nat.le_of_ble_eq_true rfl) h (fun i3 h => ?_)
    refine ok_aload_n 0 dX10_outLine_47 rfl rfl ?_
    refine ok_aload_n 0 dX10_outLine_48 rfl rfl ?_
    refine ok_geti 10 29 dX10_outLine_49 f10_173 rfl c1 ?_
    refine ok_iconst 1 dX10_outLine_52 (by decide) ?_
    refine ok_iadd dX10_outLine_53 ?_
    refine ok_cVv (rest := []) o_rc 10 [.int ((i3 v0 29) + 1)] dX10_outLine_54 k10_251 c1 rfl rfl (Nat.le_of_ble_eq_true rfl) h (fun i4 h => ?_)
    refine ok_aload_n 0 dX10_outLine_57 rfl rfl ?_
    refine ok_bipush 9 dX10_outLine_58 (by decide) ?_
    refine ok_bipush 46 dX10_outLine_60 (by decide) ?_
    refine ok_bipush 9 dX10_outLine_62 (by decide) ?_
    refine ok_iconst 0 dX10_outLine_64 (by decide) ?_
    refine ok_iconst 0 dX10_outLine_65 (by decide) ?_
    refine ok_iconst 0 dX10_outLine_66 (by decide) ?_
    refine ok_cVv (rest := []) o_rc 10 [.int 9, .int 46, .int 9, .int 0, .int 0, .int 0] dX10_outLine_67 k10_238 c1 rfl rfl (Nat.le_of_ble_eq_true rfl) h (fun i5 h => ?_)
    refine ok_aload_n 0 dX10_outLine_70 rfl rfl ?_
    refine ok_aload_n 0 dX10_outLine_71 rfl rfl ?_
    refine ok_geti 10 29 dX10_outLine_72 f10_173 rfl c1 ?_
    refine ok_aload_n 0 dX10_outLine_75 rfl rfl ?_
    refine ok_geti 10 29 dX10_outLine_76 f10_173 rfl c1 ?_
    refine ok_iload_n 1 dX10_outLine_79 rfl rfl ?_
    refine ok_iadd dX10_outLine_80 ?_
    refine ok_cVv (rest := []) o_rc 10 [.int (i5 v0 29), .int ((i5 v0 29) + v1)] dX10_outLine_81 k10_245 c1 rfl rfl (Nat.le_of_ble_eq_true rfl) h (fun i6 h => ?_)
    refine ok_aload_n 0 dX10_outLine_84 rfl rfl ?_
    refine ok_bipush 9 dX10_outLine_85 (by decide) ?_
    refine ok_cVv (rest := []) o_rc 10 [.int 9] dX10_outLine_87 k10_232 c1 rfl rfl (Nat.le_of_ble_eq_true rfl) h (fun i7 h => ?_)
    refine ok_iconst 1 dX10_outLine_90 (by decide) ?_
    refine ok_istore_n 3 dX10_outLine_91 rfl (by decide) [some (.ref v0), some (.int v1), some (.int v2), some (.int 1)] rfl ?_
    exact h
  · replace h := h.2 z2
    refine ok_aload_n 0 dX10_outLine_25 rfl rfl ?_
    refine ok_aload_n 0 dX10_outLine_26 rfl rfl ?_
    refine ok_getr 10 5 dX10_outLine_27 f10_20 rfl c1 ?_
    refine ok_iload_n 3 dX10_outLine_30 rfl rfl ?_
    obtain ⟨c8, h⟩ := h
    obtain ⟨c9, h⟩ := h
    refine ok_cald dX10_outLine_31 c8 c9 ?_
    refine ok_cVv (rest := []) o_rc 10 [.int (i (r v0 5) v3.toNatClampNeg)] dX10_outLine_32 k10_232 c1 rfl rfl (Nat.le_of_ble_eq_true rfl) h (fun i10 h => ?_)
    refine ok_eqi (v3 + 1) (fun x11 ex11 => ?_)
    replace h := h x11 ex11
    refine ok_iinc 1 x11 dX10_outLine_35 rfl (by decide) ex11 (by decide) [some (.ref v0), some (.int v1), some (.int v2), some (.int x11)] rfl ?_
    refine ok_goto 17 dX10_outLine_38 (by decide) ?_
    exact h

set_option maxRecDepth 100000 in
set_option maxHeartbeats 4000000 in
theorem sX10_outLine_92 {G : o_G} {d : Nat} {P : o_P} {i : o_I} {r : o_R} (v0 : Nat) (v1 : Int32) (v2 : Int32) (v3 : Int32)
    (h : o_O G v0 10 ∧ (((i v0 31) ≤ v3 → SpV G d mX10_out [.ref v0, .int 9] (fun i3 => o_Y G (r v0 34) 1 ∧ vp_in 0 (o_len G (r v0 34)) ∧ (∀ x7 : Int32, x7 = (if ((i3 (r v0 34) (0 : Int32).toNatClampNeg) - v2) ≤ 999 then ((i3 (r v0 34) (0 : Int32).toNatClampNeg) - v2) else 999) → SpV G d mX10_outNumber [.ref v0, .int x7] (fun i8 => SpV G d mX10_outSix [.ref v0, .int 9, .int 46, .int 9, .int 46, .int 9, .int 0] (fun i9 => SpV G d mX10_outSix [.ref v0, .int 71, .int 84, .int 58, .int 68, .int 80, .int 58] (fun i10 => SpV G d mX10_outSix [.ref v0, .int 65, .int 68, .int 58, .int 80, .int 76, .int 9] (fun i11 => SpI G d mX10_firstOf [.int (i11 v0 36)] (fun x12 i12 => SpI G d mX10_secondOf [.int (i12 v0 36)] (fun x13 i13 => SpV G d mX10_outSix [.ref v0, .int (48 + x12), .int 47, .int (48 + x13), .int 58, .int 0, .int 0] (fun i14 => SpV G d mX10_outNumber [.ref v0, .int (i14 v0 30)] (fun i15 => Ok G (d + 1) mX10_outLine P 237 [some (.ref v0), none, some (.int v2), some (.int 0)] [] i15 r) i14 r) i13 r) i12 r) i11 r) i10 r) i9 r) i8 r) i3 r)) i r) ∧ (¬ (i v0 31) ≤ v3 → SpV G d mX10_outAlternative [.ref v0, .int v3, .int v1] (fun i17 => ∀ x18 : Int32, x18 = v3 + 1 → Ok G (d + 1) mX10_outLine P 92 [some (.ref v0), some (.int v1), some (.int v2), some (.int x18)] [] i17 r) i r))) :
    Ok G (d + 1) mX10_outLine P 92 [some (.ref v0), some (.int v1), some (.int v2), some (.int v3)] [] i r := by
  refine ok_iload_n 3 dX10_outLine_92 rfl rfl ?_
  refine ok_aload_n 0 dX10_outLine_93 rfl rfl ?_
  obtain ⟨c1, h⟩ := h
  refine ok_geti 10 31 dX10_outLine_94 f10_153 rfl c1 ?_
  refine ok_ic_ge 112 dX10_outLine_97 (by decide) (fun z2 => ?_) (fun z2 => ?_)
  · replace h := h.1 z2
    refine ok_aload_n 0 dX10_outLine_112 rfl rfl ?_
    refine ok_bipush 9 dX10_outLine_113 (by decide) ?_
    refine ok_cVv (rest := []) o_rc 10 [.int 9] dX10_outLine_115 k10_232 c1 rfl rfl (Nat.le_of_ble_eq_true rfl) h (fun i3 h => ?_)
    refine ok_aload_n 0 dX10_outLine_118 rfl rfl ?_
    refine ok_aload_n 0 dX10_outLine_119 rfl rfl ?_
    refine ok_getr 10 34 dX10_outLine_120 f10_86 rfl c1 ?_
    refine ok_iconst 0 dX10_outLine_123 (by decide) ?_
    obtain ⟨c4, h⟩ := h
    obtain ⟨c5, h⟩ := h
    refine ok_iald dX10_outLine_124 c4 c5 ?_
    refine ok_iload_n 2 dX10_outLine_125 rfl rfl ?_
    refine ok_isub dX10_outLine_126 ?_
    refine ok_sipush 999 dX10_outLine_127 (by decide) ?_
    have k16 : ∀ x7 : Int32, x7 = (if ((i3 (r v0 34) (0 : Int32).toNatClampNeg) - v2) ≤ 999 then ((i3 (r v0 34) (0 : Int32).toNatClampNeg) - v2) else 999) → Ok G (d + 1) mX10_outLine P 147 [some (.ref v0), none, some (.int v2), none] [.int x7, .ref v0] i3 r := by
      intro x7 ex7
      replace h := h x7 ex7
      refine ok_cVv (rest := []) o_rc 10 [.int x7] dX10_outLine_147 k10_251 c1 rfl rfl (Nat.le_of_ble_eq_true rfl) h (fun i8 h => ?_)
      refine ok_aload_n 0 dX10_outLine_150 rfl rfl ?_
      refine ok_bipush 9 dX10_outLine_151 (by decide) ?_
      refine ok_bipush 46 dX10_outLine_153 (by decide) ?_
      refine ok_bipush 9 dX10_outLine_155 (by decide) ?_
      refine ok_bipush 46 dX10_outLine_157 (by decide) ?_
      refine ok_bipush 9 dX10_outLine_159 (by decide) ?_
      refine ok_iconst 0 dX10_outLine_161 (by decide) ?_
      refine ok_cVv (rest := []) o_rc 10 [.int 9, .int 46, .int 9, .int 46, .int 9, .int 0] dX10_outLine_162 k10_238 c1 rfl rfl (Nat.le_of_ble_eq_true rfl) h (fun i9 h => ?_)
      refine ok_aload_n 0 dX10_outLine_165 rfl rfl ?_
      refine ok_bipush 71 dX10_outLine_166 (by decide) ?_
      refine ok_bipush 84 dX10_outLine_168 (by decide) ?_
      refine ok_bipush 58 dX10_outLine_170 (by decide) ?_
      refine ok_bipush 68 dX10_outLine_172 (by decide) ?_
      refine ok_bipush 80 dX10_outLine_174 (by decide) ?_
      refine ok_bipush 58 dX10_outLine_176 (by decide) ?_
      refine ok_cVv (rest := []) o_rc 10 [.int 71, .int 84, .int 58, .int 68, .int 80, .int 58] dX10_outLine_178 k10_238 c1 rfl rfl (Nat.le_of_ble_eq_true rfl) h (fun i10 h => ?_)
      refine ok_aload_n 0 dX10_outLine_181 rfl rfl ?_
      refine ok_bipush 65 dX10_outLine_182 (by decide) ?_
      refine ok_bipush 68 dX10_outLine_184 (by decide) ?_
      refine ok_bipush 58 dX10_outLine_186 (by decide) ?_
      refine ok_bipush 80 dX10_outLine_188 (by decide) ?_
      refine ok_bipush 76 dX10_outLine_190 (by decide) ?_
      refine ok_bipush 9 dX10_outLine_192 (by decide) ?_
      refine ok_cVv (rest := []) o_rc 10 [.int 65, .int 68, .int 58, .int 80, .int 76, .int 9] dX10_outLine_194 k10_238 c1 rfl rfl (Nat.le_of_ble_eq_true rfl) h (fun i11 h => ?_)
      refine ok_aload_n 0 dX10_outLine_197 rfl rfl ?_
      refine ok_bipush 48 dX10_outLine_198 (by decide) ?_
      refine ok_aload_n 0 dX10_outLine_200 rfl rfl ?_
      refine ok_geti 10 36 dX10_outLine_201 f10_188 rfl c1 ?_
      refine ok_cSi (rest := [.int 48, .ref v0]) o_rc [.int (i11 v0 36)] dX10_outLine_204 k10_156 rfl rfl (Nat.le_of_ble_eq_true rfl) h (fun x12 i12 h => ?_)
      refine ok_iadd dX10_outLine_207 ?_
      refine ok_bipush 47 dX10_outLine_208 (by decide) ?_
      refine ok_bipush 48 dX10_outLine_210 (by decide) ?_
      refine ok_aload_n 0 dX10_outLine_212 rfl rfl ?_
      refine ok_geti 10 36 dX10_outLine_213 f10_188 rfl c1 ?_
      refine ok_cSi (rest := [.int 48, .int 47, .int (48 + x12), .ref v0]) o_rc [.int (i12 v0 36)] dX10_outLine_216 k10_160 rfl rfl (Nat.le_of_ble_eq_true rfl) h (fun x13 i13 h => ?_)
      refine ok_iadd dX10_outLine_219 ?_
      refine ok_bipush 58 dX10_outLine_220 (by decide) ?_
      refine ok_iconst 0 dX10_outLine_222 (by decide) ?_
      refine ok_iconst 0 dX10_outLine_223 (by decide) ?_
      refine ok_cVv (rest := []) o_rc 10 [.int (48 + x12), .int 47, .int (48 + x13), .int 58, .int 0, .int 0] dX10_outLine_224 k10_238 c1 rfl rfl (Nat.le_of_ble_eq_true rfl) h (fun i14 h => ?_)
      refine ok_aload_n 0 dX10_outLine_227 rfl rfl ?_
      refine ok_aload_n 0 dX10_outLine_228 rfl rfl ?_
      refine ok_geti 10 30 dX10_outLine_229 f10_179 rfl c1 ?_
      refine ok_cVv (rest := []) o_rc 10 [.int (i14 v0 30)] dX10_outLine_232 k10_251 c1 rfl rfl (Nat.le_of_ble_eq_true rfl) h (fun i15 h => ?_)
      refine ok_iconst 0 dX10_outLine_235 (by decide) ?_
      refine ok_istore_n 3 dX10_outLine_236 rfl (by decide) [some (.ref v0), none, some (.int v2), some (.int 0)] rfl ?_
      exact h
    clear h
    refine ok_ic_le 139 dX10_outLine_130 (by decide) (fun z6 => ?_) (fun z6 => ?_)
    · refine ok_aload_n 0 dX10_outLine_139 rfl rfl ?_
      refine ok_getr 10 34 dX10_outLine_140 f10_86 rfl c1 ?_
      refine ok_iconst 0 dX10_outLine_143 (by decide) ?_
      refine ok_iald dX10_outLine_144 c4 c5 ?_
      refine ok_iload_n 2 dX10_outLine_145 rfl rfl ?_
      refine ok_isub dX10_outLine_146 ?_
      refine ok_wk [some (.ref v0), none, some (.int v2), none] ⟨rfl, rfl, trivial⟩ ?_
      exact k16 (((i3 (r v0 34) (0 : Int32).toNatClampNeg) - v2)) (by simp only [if_pos z6])
    · refine ok_sipush 999 dX10_outLine_133 (by decide) ?_
      refine ok_goto 147 dX10_outLine_136 (by decide) ?_
      refine ok_wk [some (.ref v0), none, some (.int v2), none] ⟨rfl, rfl, trivial⟩ ?_
      exact k16 (999) (by simp only [if_neg z6])
  · replace h := h.2 z2
    refine ok_aload_n 0 dX10_outLine_100 rfl rfl ?_
    refine ok_iload_n 3 dX10_outLine_101 rfl rfl ?_
    refine ok_iload_n 1 dX10_outLine_102 rfl rfl ?_
    refine ok_cVv (rest := []) o_rc 10 [.int v3, .int v1] dX10_outLine_103 k10_254 c1 rfl rfl (Nat.le_of_ble_eq_true rfl) h (fun i17 h => ?_)
    refine ok_eqi (v3 + 1) (fun x18 ex18 => ?_)
    replace h := h x18 ex18
    refine ok_iinc 1 x18 dX10_outLine_106 rfl (by decide) ex18 (by decide) [some (.ref v0), some (.int v1), some (.int v2), some (.int x18)] rfl ?_
    refine ok_goto 92 dX10_outLine_109 (by decide) ?_
    exact h

set_option maxRecDepth 100000 in
set_option maxHeartbeats 4000000 in
theorem sX10_outLine_237 {G : o_G} {d : Nat} {P : o_P} {i : o_I} {r : o_R} (v0 : Nat) (v2 : Int32) (v3 : Int32)
    (h : o_O G v0 10 ∧ (((i v0 31) ≤ v3 → Ok G (d + 1) mX10_outLine P 283 [some (.ref v0), none, some (.int v2), some (.int 0)] [] i r) ∧ (¬ (i v0 31) ≤ v3 → (∀ x4 : Int32, x4 = (if v3 = 0 then 58 else 44) → SpV G d mX10_out [.ref v0, .int x4] (fun i5 => o_Y G (r v0 32) 1 ∧ vp_in v3 (o_len G (r v0 32)) ∧ o_Y G (r v0 33) 1 ∧ vp_in (i5 (r v0 32) v3.toNatClampNeg) (o_len G (r v0 33)) ∧ SpV G d mX10_outNumber [.ref v0, .int (i5 (r v0 33) (i5 (r v0 32) v3.toNatClampNeg).toNatClampNeg)] (fun i10 => ∀ x11 : Int32, x11 = v3 + 1 → Ok G (d + 1) mX10_outLine P 237 [some (.ref v0), none, some (.int v2), some (.int x11)] [] i10 r) i5 r) i r)))) :
    Ok G (d + 1) mX10_outLine P 237 [some (.ref v0), none, some (.int v2), some (.int v3)] [] i r := by
  refine ok_iload_n 3 dX10_outLine_237 rfl rfl ?_
  refine ok_aload_n 0 dX10_outLine_238 rfl rfl ?_
  obtain ⟨c1, h⟩ := h
  refine ok_geti 10 31 dX10_outLine_239 f10_153 rfl c1 ?_
  refine ok_ic_ge 281 dX10_outLine_242 (by decide) (fun z2 => ?_) (fun z2 => ?_)
  · replace h := h.1 z2
    refine ok_iconst 0 dX10_outLine_281 (by decide) ?_
    refine ok_istore_n 3 dX10_outLine_282 rfl (by decide) [some (.ref v0), none, some (.int v2), some (.int 0)] rfl ?_
    exact h
  · replace h := h.2 z2
    refine ok_aload_n 0 dX10_outLine_245 rfl rfl ?_
    refine ok_iload_n 3 dX10_outLine_246 rfl rfl ?_
    have k12 : ∀ x4 : Int32, x4 = (if v3 = 0 then 58 else 44) → Ok G (d + 1) mX10_outLine P 257 [some (.ref v0), none, some (.int v2), some (.int v3)] [.int x4, .ref v0] i r := by
      intro x4 ex4
      replace h := h x4 ex4
      refine ok_cVv (rest := []) o_rc 10 [.int x4] dX10_outLine_257 k10_232 c1 rfl rfl (Nat.le_of_ble_eq_true rfl) h (fun i5 h => ?_)
      refine ok_aload_n 0 dX10_outLine_260 rfl rfl ?_
      refine ok_aload_n 0 dX10_outLine_261 rfl rfl ?_
      refine ok_getr 10 33 dX10_outLine_262 f10_83 rfl c1 ?_
      refine ok_aload_n 0 dX10_outLine_265 rfl rfl ?_
      refine ok_getr 10 32 dX10_outLine_266 f10_80 rfl c1 ?_
      refine ok_iload_n 3 dX10_outLine_269 rfl rfl ?_
      obtain ⟨c6, h⟩ := h
      obtain ⟨c7, h⟩ := h
      refine ok_iald dX10_outLine_270 c6 c7 ?_
      obtain ⟨c8, h⟩ := h
      obtain ⟨c9, h⟩ := h
      refine ok_iald dX10_outLine_271 c8 c9 ?_
      refine ok_cVv (rest := []) o_rc 10 [.int (i5 (r v0 33) (i5 (r v0 32) v3.toNatClampNeg).toNatClampNeg)] dX10_outLine_272 k10_251 c1 rfl rfl (Nat.le_of_ble_eq_true rfl) h (fun i10 h => ?_)
      refine ok_eqi (v3 + 1) (fun x11 ex11 => ?_)
      replace h := h x11 ex11
      refine ok_iinc 1 x11 dX10_outLine_275 rfl (by decide) ex11 (by decide) [some (.ref v0), none, some (.int v2), some (.int x11)] rfl ?_
      refine ok_goto 237 dX10_outLine_278 (by decide) ?_
      exact h
    clear h
    refine ok_if_ne 255 dX10_outLine_247 (by decide) (fun z3 => ?_) (fun z3 => ?_)
    · refine ok_bipush 44 dX10_outLine_255 (by decide) ?_
      exact k12 (44) (by simp only [if_neg z3])
    · refine ok_bipush 58 dX10_outLine_250 (by decide) ?_
      refine ok_goto 257 dX10_outLine_252 (by decide) ?_
      exact k12 (58) (by simp only [if_pos z3])

set_option maxRecDepth 100000 in
set_option maxHeartbeats 4000000 in
theorem sX10_outLine_283 {G : o_G} {d : Nat} {P : o_P} {i : o_I} {r : o_R} (v0 : Nat) (v2 : Int32) (v3 : Int32)
    (h : o_O G v0 10 ∧ (((i v0 35) ≤ v3 → SpV G d mX10_out [.ref v0, .int 10] (fun i3 => P none i3 r) i r) ∧ (¬ (i v0 35) ≤ v3 → (∀ x5 : Int32, x5 = (if v3 = 0 then 58 else 44) → SpV G d mX10_out [.ref v0, .int x5] (fun i6 => o_Y G (r v0 34) 1 ∧ vp_in v3 (o_len G (r v0 34)) ∧ (∀ x10 : Int32, x10 = (if ((i6 (r v0 34) v3.toNatClampNeg) - v2) ≤ 255 then ((i6 (r v0 34) v3.toNatClampNeg) - v2) else 255) → SpV G d mX10_outNumber [.ref v0, .int x10] (fun i11 => ∀ x12 : Int32, x12 = v3 + 1 → Ok G (d + 1) mX10_outLine P 283 [some (.ref v0), none, some (.int v2), some (.int x12)] [] i11 r) i6 r)) i r)))) :
    Ok G (d + 1) mX10_outLine P 283 [some (.ref v0), none, some (.int v2), some (.int v3)] [] i r := by
  refine ok_iload_n 3 dX10_outLine_283 rfl rfl ?_
  refine ok_aload_n 0 dX10_outLine_284 rfl rfl ?_
  obtain ⟨c1, h⟩ := h
  refine ok_geti 10 35 dX10_outLine_285 f10_185 rfl c1 ?_
  refine ok_ic_ge 344 dX10_outLine_288 (by decide) (fun z2 => ?_) (fun z2 => ?_)
  · replace h := h.1 z2
    refine ok_aload_n 0 dX10_outLine_344 rfl rfl ?_
    refine ok_bipush 10 dX10_outLine_345 (by decide) ?_
    refine ok_cVv (rest := []) o_rc 10 [.int 10] dX10_outLine_347 k10_232 c1 rfl rfl (Nat.le_of_ble_eq_true rfl) h (fun i3 h => ?_)
    exact ok_vret dX10_outLine_350 rfl h
  · replace h := h.2 z2
    refine ok_aload_n 0 dX10_outLine_291 rfl rfl ?_
    refine ok_iload_n 3 dX10_outLine_292 rfl rfl ?_
    have k14 : ∀ x5 : Int32, x5 = (if v3 = 0 then 58 else 44) → Ok G (d + 1) mX10_outLine P 303 [some (.ref v0), none, some (.int v2), some (.int v3)] [.int x5, .ref v0] i r := by
      intro x5 ex5
      replace h := h x5 ex5
      refine ok_cVv (rest := []) o_rc 10 [.int x5] dX10_outLine_303 k10_232 c1 rfl rfl (Nat.le_of_ble_eq_true rfl) h (fun i6 h => ?_)
      refine ok_aload_n 0 dX10_outLine_306 rfl rfl ?_
      refine ok_aload_n 0 dX10_outLine_307 rfl rfl ?_
      refine ok_getr 10 34 dX10_outLine_308 f10_86 rfl c1 ?_
      refine ok_iload_n 3 dX10_outLine_311 rfl rfl ?_
      obtain ⟨c7, h⟩ := h
      obtain ⟨c8, h⟩ := h
      refine ok_iald dX10_outLine_312 c7 c8 ?_
      refine ok_iload_n 2 dX10_outLine_313 rfl rfl ?_
      refine ok_isub dX10_outLine_314 ?_
      refine ok_sipush 255 dX10_outLine_315 (by decide) ?_
      have k13 : ∀ x10 : Int32, x10 = (if ((i6 (r v0 34) v3.toNatClampNeg) - v2) ≤ 255 then ((i6 (r v0 34) v3.toNatClampNeg) - v2) else 255) → Ok G (d + 1) mX10_outLine P 335 [some (.ref v0), none, some (.int v2), some (.int v3)] [.int x10, .ref v0] i6 r := by
        intro x10 ex10
        replace h := h x10 ex10
        refine ok_cVv (rest := []) o_rc 10 [.int x10] dX10_outLine_335 k10_251 c1 rfl rfl (Nat.le_of_ble_eq_true rfl) h (fun i11 h => ?_)
        refine ok_eqi (v3 + 1) (fun x12 ex12 => ?_)
        replace h := h x12 ex12
        refine ok_iinc 1 x12 dX10_outLine_338 rfl (by decide) ex12 (by decide) [some (.ref v0), none, some (.int v2), some (.int x12)] rfl ?_
        refine ok_goto 283 dX10_outLine_341 (by decide) ?_
        exact h
      clear h
      refine ok_ic_le 327 dX10_outLine_318 (by decide) (fun z9 => ?_) (fun z9 => ?_)
      · refine ok_aload_n 0 dX10_outLine_327 rfl rfl ?_
        refine ok_getr 10 34 dX10_outLine_328 f10_86 rfl c1 ?_
        refine ok_iload_n 3 dX10_outLine_331 rfl rfl ?_
        refine ok_iald dX10_outLine_332 c7 c8 ?_
        refine ok_iload_n 2 dX10_outLine_333 rfl rfl ?_
        refine ok_isub dX10_outLine_334 ?_
        exact k13 (((i6 (r v0 34) v3.toNatClampNeg) - v2)) (by simp only [if_pos z9])
      · refine ok_sipush 255 dX10_outLine_321 (by decide) ?_
        refine ok_goto 335 dX10_outLine_324 (by decide) ?_
        exact k13 (255) (by simp only [if_neg z9])
    clear h
    refine ok_if_ne 301 dX10_outLine_293 (by decide) (fun z4 => ?_) (fun z4 => ?_)
    · refine ok_bipush 44 dX10_outLine_301 (by decide) ?_
      exact k14 (44) (by simp only [if_neg z4])
    · refine ok_bipush 58 dX10_outLine_296 (by decide) ?_
      refine ok_goto 303 dX10_outLine_298 (by decide) ?_
      exact k14 (58) (by simp only [if_pos z4])

set_option maxRecDepth 100000 in
set_option maxHeartbeats 4000000 in
theorem sX10_outNumber_0 {G : o_G} {d : Nat} {P : o_P} {i : o_I} {r : o_R} (v0 : Nat) (v1 : Int32)
    (h : Ok G (d + 1) mX10_outNumber P 2 [some (.ref v0), some (.int v1), some (.int 1)] [] i r) :
    Ok G (d + 1) mX10_outNumber P 0 [some (.ref v0), some (.int v1), none] [] i r := by
  refine ok_iconst 1 dX10_outNumber_0 (by decide) ?_
  refine ok_istore_n 2 dX10_outNumber_1 rfl (by decide) [some (.ref v0), some (.int v1), some (.int 1)] rfl ?_
  exact h

set_option maxRecDepth 100000 in
set_option maxHeartbeats 4000000 in
theorem sX10_outNumber_2 {G : o_G} {d : Nat} {P : o_P} {i : o_I} {r : o_R} (v0 : Nat) (v1 : Int32) (v2 : Int32)
    (h : (((v1 / 10) < v2 → Ok G (d + 1) mX10_outNumber P 18 [some (.ref v0), some (.int v1), some (.int v2)] [] i r) ∧ (¬ (v1 / 10) < v2 → ∀ x2 : Int32, x2 = (v2 * 10) → Ok G (d + 1) mX10_outNumber P 2 [some (.ref v0), some (.int v1), some (.int x2)] [] i r))) :
    Ok G (d + 1) mX10_outNumber P 2 [some (.ref v0), some (.int v1), some (.int v2)] [] i r := by
  refine ok_iload_n 2 dX10_outNumber_2 rfl rfl ?_
  refine ok_iload_n 1 dX10_outNumber_3 rfl rfl ?_
  refine ok_bipush 10 dX10_outNumber_4 (by decide) ?_
  refine ok_idiv dX10_outNumber_6 (by decide) ?_
  refine ok_ic_gt 18 dX10_outNumber_7 (by decide) (fun z1 => ?_) (fun z1 => ?_)
  · replace h := h.1 z1
    exact h
  · replace h := h.2 z1
    refine ok_iload_n 2 dX10_outNumber_10 rfl rfl ?_
    refine ok_bipush 10 dX10_outNumber_11 (by decide) ?_
    refine ok_imul dX10_outNumber_13 ?_
    refine ok_topi (fun x2 ex2 => ?_)
    replace h := h x2 ex2
    refine ok_istore_n 2 dX10_outNumber_14 rfl (by decide) [some (.ref v0), some (.int v1), some (.int x2)] rfl ?_
    refine ok_goto 2 dX10_outNumber_15 (by decide) ?_
    exact h

set_option maxRecDepth 100000 in
set_option maxHeartbeats 4000000 in
theorem sX10_outNumber_18 {G : o_G} {d : Nat} {P : o_P} {i : o_I} {r : o_R} (v0 : Nat) (v1 : Int32) (v2 : Int32)
    (h : ((v2 ≤ 0 → P none i r) ∧ (¬ v2 ≤ 0 → ¬ v2 = 0 ∧ o_O G v0 10 ∧ SpV G d mX10_out [.ref v0, .int (48 + ((v1 / v2) - (v1 / v2) / 10 * 10))] (fun i4 => ∀ x5 : Int32, x5 = (v2 / 10) → Ok G (d + 1) mX10_outNumber P 18 [some (.ref v0), some (.int v1), some (.int x5)] [] i4 r) i r))) :
    Ok G (d + 1) mX10_outNumber P 18 [some (.ref v0), some (.int v1), some (.int v2)] [] i r := by
  refine ok_iload_n 2 dX10_outNumber_18 rfl rfl ?_
  refine ok_if_le 43 dX10_outNumber_19 (by decide) (fun z1 => ?_) (fun z1 => ?_)
  · replace h := h.1 z1
    exact ok_vret dX10_outNumber_43 rfl h
  · replace h := h.2 z1
    refine ok_aload_n 0 dX10_outNumber_22 rfl rfl ?_
    refine ok_bipush 48 dX10_outNumber_23 (by decide) ?_
    refine ok_iload_n 1 dX10_outNumber_25 rfl rfl ?_
    refine ok_iload_n 2 dX10_outNumber_26 rfl rfl ?_
    obtain ⟨c2, h⟩ := h
    refine ok_idiv dX10_outNumber_27 c2 ?_
    refine ok_bipush 10 dX10_outNumber_28 (by decide) ?_
    refine ok_irem dX10_outNumber_30 (by decide) ?_
    refine ok_iadd dX10_outNumber_31 ?_
    obtain ⟨c3, h⟩ := h
    refine ok_cVv (rest := []) o_rc 10 [.int (48 + ((v1 / v2) - (v1 / v2) / 10 * 10))] dX10_outNumber_32 k10_232 c3 rfl rfl (Nat.le_of_ble_eq_true rfl) h (fun i4 h => ?_)
    refine ok_iload_n 2 dX10_outNumber_35 rfl rfl ?_
    refine ok_bipush 10 dX10_outNumber_36 (by decide) ?_
    refine ok_idiv dX10_outNumber_38 (by decide) ?_
    refine ok_topi (fun x5 ex5 => ?_)
    replace h := h x5 ex5
    refine ok_istore_n 2 dX10_outNumber_39 rfl (by decide) [some (.ref v0), some (.int v1), some (.int x5)] rfl ?_
    refine ok_goto 18 dX10_outNumber_40 (by decide) ?_
    exact h

set_option maxRecDepth 100000 in
set_option maxHeartbeats 4000000 in
theorem sX10_outSix_0 {G : o_G} {d : Nat} {P : o_P} {i : o_I} {r : o_R} (v0 : Nat) (v1 : Int32) (v2 : Int32) (v3 : Int32) (v4 : Int32) (v5 : Int32) (v6 : Int32)
    (h : o_O G v0 10 ∧ SpV G d mX10_out [.ref v0, .int v1] (fun i2 => ((v2 ≤ 0 → ((v3 ≤ 0 → Ok G (d + 1) mX10_outSix P 23 [some (.ref v0), none, none, none, some (.int v4), some (.int v5), some (.int v6)] [] i2 r) ∧ (¬ v3 ≤ 0 → SpV G d mX10_out [.ref v0, .int v3] (fun i5 => Ok G (d + 1) mX10_outSix P 23 [some (.ref v0), none, none, none, some (.int v4), some (.int v5), some (.int v6)] [] i5 r) i2 r))) ∧ (¬ v2 ≤ 0 → SpV G d mX10_out [.ref v0, .int v2] (fun i6 => ((v3 ≤ 0 → Ok G (d + 1) mX10_outSix P 23 [some (.ref v0), none, none, none, some (.int v4), some (.int v5), some (.int v6)] [] i6 r) ∧ (¬ v3 ≤ 0 → SpV G d mX10_out [.ref v0, .int v3] (fun i8 => Ok G (d + 1) mX10_outSix P 23 [some (.ref v0), none, none, none, some (.int v4), some (.int v5), some (.int v6)] [] i8 r) i6 r))) i2 r))) i r) :
    Ok G (d + 1) mX10_outSix P 0 [some (.ref v0), some (.int v1), some (.int v2), some (.int v3), some (.int v4), some (.int v5), some (.int v6)] [] i r := by
  refine ok_aload_n 0 dX10_outSix_0 rfl rfl ?_
  refine ok_iload_n 1 dX10_outSix_1 rfl rfl ?_
  obtain ⟨c1, h⟩ := h
  refine ok_cVv (rest := []) o_rc 10 [.int v1] dX10_outSix_2 k10_232 c1 rfl rfl (Nat.le_of_ble_eq_true rfl) h (fun i2 h => ?_)
  refine ok_iload_n 2 dX10_outSix_5 rfl rfl ?_
  refine ok_if_le 14 dX10_outSix_6 (by decide) (fun z3 => ?_) (fun z3 => ?_)
  · replace h := h.1 z3
    refine ok_iload_n 3 dX10_outSix_14 rfl rfl ?_
    refine ok_if_le 23 dX10_outSix_15 (by decide) (fun z4 => ?_) (fun z4 => ?_)
    · replace h := h.1 z4
      refine ok_wk [some (.ref v0), none, none, none, some (.int v4), some (.int v5), some (.int v6)] ⟨rfl, rfl, rfl, rfl, trivial⟩ ?_
      exact h
    · replace h := h.2 z4
      refine ok_aload_n 0 dX10_outSix_18 rfl rfl ?_
      refine ok_iload_n 3 dX10_outSix_19 rfl rfl ?_
      refine ok_cVv (rest := []) o_rc 10 [.int v3] dX10_outSix_20 k10_232 c1 rfl rfl (Nat.le_of_ble_eq_true rfl) h (fun i5 h => ?_)
      refine ok_wk [some (.ref v0), none, none, none, some (.int v4), some (.int v5), some (.int v6)] ⟨rfl, rfl, rfl, rfl, trivial⟩ ?_
      exact h
  · replace h := h.2 z3
    refine ok_aload_n 0 dX10_outSix_9 rfl rfl ?_
    refine ok_iload_n 2 dX10_outSix_10 rfl rfl ?_
    refine ok_cVv (rest := []) o_rc 10 [.int v2] dX10_outSix_11 k10_232 c1 rfl rfl (Nat.le_of_ble_eq_true rfl) h (fun i6 h => ?_)
    refine ok_iload_n 3 dX10_outSix_14 rfl rfl ?_
    refine ok_if_le 23 dX10_outSix_15 (by decide) (fun z7 => ?_) (fun z7 => ?_)
    · replace h := h.1 z7
      refine ok_wk [some (.ref v0), none, none, none, some (.int v4), some (.int v5), some (.int v6)] ⟨rfl, rfl, rfl, rfl, trivial⟩ ?_
      exact h
    · replace h := h.2 z7
      refine ok_aload_n 0 dX10_outSix_18 rfl rfl ?_
      refine ok_iload_n 3 dX10_outSix_19 rfl rfl ?_
      refine ok_cVv (rest := []) o_rc 10 [.int v3] dX10_outSix_20 k10_232 c1 rfl rfl (Nat.le_of_ble_eq_true rfl) h (fun i8 h => ?_)
      refine ok_wk [some (.ref v0), none, none, none, some (.int v4), some (.int v5), some (.int v6)] ⟨rfl, rfl, rfl, rfl, trivial⟩ ?_
      exact h

set_option maxRecDepth 100000 in
set_option maxHeartbeats 4000000 in
theorem sX10_outSix_23 {G : o_G} {d : Nat} {P : o_P} {i : o_I} {r : o_R} (v0 : Nat) (v4 : Int32) (v5 : Int32) (v6 : Int32)
    (h : ((v4 ≤ 0 → Ok G (d + 1) mX10_outSix P 34 [some (.ref v0), none, none, none, none, some (.int v5), some (.int v6)] [] i r) ∧ (¬ v4 ≤ 0 → o_O G v0 10 ∧ SpV G d mX10_out [.ref v0, .int v4] (fun i3 => Ok G (d + 1) mX10_outSix P 34 [some (.ref v0), none, none, none, none, some (.int v5), some (.int v6)] [] i3 r) i r))) :
    Ok G (d + 1) mX10_outSix P 23 [some (.ref v0), none, none, none, some (.int v4), some (.int v5), some (.int v6)] [] i r := by
  refine ok_iload dX10_outSix_23 rfl ?_
  refine ok_if_le 34 dX10_outSix_25 (by decide) (fun z1 => ?_) (fun z1 => ?_)
  · replace h := h.1 z1
    refine ok_wk [some (.ref v0), none, none, none, none, some (.int v5), some (.int v6)] ⟨rfl, rfl, rfl, trivial⟩ ?_
    exact h
  · replace h := h.2 z1
    refine ok_aload_n 0 dX10_outSix_28 rfl rfl ?_
    refine ok_iload dX10_outSix_29 rfl ?_
    obtain ⟨c2, h⟩ := h
    refine ok_cVv (rest := []) o_rc 10 [.int v4] dX10_outSix_31 k10_232 c2 rfl rfl (Nat.le_of_ble_eq_true rfl) h (fun i3 h => ?_)
    refine ok_wk [some (.ref v0), none, none, none, none, some (.int v5), some (.int v6)] ⟨rfl, rfl, rfl, trivial⟩ ?_
    exact h

set_option maxRecDepth 100000 in
set_option maxHeartbeats 4000000 in
theorem sX10_outSix_34 {G : o_G} {d : Nat} {P : o_P} {i : o_I} {r : o_R} (v0 : Nat) (v5 : Int32) (v6 : Int32)
    (h : ((v5 ≤ 0 → Ok G (d + 1) mX10_outSix P 45 [some (.ref v0), none, none, none, none, none, some (.int v6)] [] i r) ∧ (¬ v5 ≤ 0 → o_O G v0 10 ∧ SpV G d mX10_out [.ref v0, .int v5] (fun i3 => Ok G (d + 1) mX10_outSix P 45 [some (.ref v0), none, none, none, none, none, some (.int v6)] [] i3 r) i r))) :
    Ok G (d + 1) mX10_outSix P 34 [some (.ref v0), none, none, none, none, some (.int v5), some (.int v6)] [] i r := by
  refine ok_iload dX10_outSix_34 rfl ?_
  refine ok_if_le 45 dX10_outSix_36 (by decide) (fun z1 => ?_) (fun z1 => ?_)
  · replace h := h.1 z1
    refine ok_wk [some (.ref v0), none, none, none, none, none, some (.int v6)] ⟨rfl, rfl, trivial⟩ ?_
    exact h
  · replace h := h.2 z1
    refine ok_aload_n 0 dX10_outSix_39 rfl rfl ?_
    refine ok_iload dX10_outSix_40 rfl ?_
    obtain ⟨c2, h⟩ := h
    refine ok_cVv (rest := []) o_rc 10 [.int v5] dX10_outSix_42 k10_232 c2 rfl rfl (Nat.le_of_ble_eq_true rfl) h (fun i3 h => ?_)
    refine ok_wk [some (.ref v0), none, none, none, none, none, some (.int v6)] ⟨rfl, rfl, trivial⟩ ?_
    exact h

set_option maxRecDepth 100000 in
set_option maxHeartbeats 4000000 in
theorem sX10_outSix_45 {G : o_G} {d : Nat} {P : o_P} {i : o_I} {r : o_R} (v0 : Nat) (v6 : Int32)
    (h : ((v6 ≤ 0 → P none i r) ∧ (¬ v6 ≤ 0 → o_O G v0 10 ∧ SpV G d mX10_out [.ref v0, .int v6] (fun i3 => P none i3 r) i r))) :
    Ok G (d + 1) mX10_outSix P 45 [some (.ref v0), none, none, none, none, none, some (.int v6)] [] i r := by
  refine ok_iload dX10_outSix_45 rfl ?_
  refine ok_if_le 56 dX10_outSix_47 (by decide) (fun z1 => ?_) (fun z1 => ?_)
  · replace h := h.1 z1
    exact ok_vret dX10_outSix_56 rfl h
  · replace h := h.2 z1
    refine ok_aload_n 0 dX10_outSix_50 rfl rfl ?_
    refine ok_iload dX10_outSix_51 rfl ?_
    obtain ⟨c2, h⟩ := h
    refine ok_cVv (rest := []) o_rc 10 [.int v6] dX10_outSix_53 k10_232 c2 rfl rfl (Nat.le_of_ble_eq_true rfl) h (fun i3 h => ?_)
    exact ok_vret dX10_outSix_56 rfl h

set_option maxRecDepth 100000 in
set_option maxHeartbeats 4000000 in
theorem sX10_outside_0 {G : o_G} {d : Nat} {P : o_P} {i : o_I} {r : o_R} (v0 : Int32) (v1 : Int32) (v2 : Int32)
    (h : (∀ x3 : Int32, x3 = (if v0 < v1 then 1 else (if v0 ≤ v2 then 0 else 1)) → (x3 = 0 ∨ x3 = 1) ∧ P (some (.int x3)) i r)) :
    Ok G (d + 1) mX10_outside P 0 [some (.int v0), some (.int v1), some (.int v2)] [] i r := by
  refine ok_iload_n 0 dX10_outside_0 rfl rfl ?_
  refine ok_iload_n 1 dX10_outside_1 rfl rfl ?_
  have k5 : ∀ x3 : Int32, x3 = (if v0 < v1 then 1 else (if v0 ≤ v2 then 0 else 1)) → Ok G (d + 1) mX10_outside P 15 [none, none, none] [.int x3] i r := by
    intro x3 ex3
    replace h := h x3 ex3
    obtain ⟨c4, h⟩ := h
    exact ok_iret .boolean dX10_outside_15 rfl (o_bool c4).1 h
  clear h
  refine ok_ic_lt 10 dX10_outside_2 (by decide) (fun z1 => ?_) (fun z1 => ?_)
  · refine ok_iconst 1 dX10_outside_10 (by decide) ?_
    refine ok_goto 15 dX10_outside_11 (by decide) ?_
    refine ok_wk [none, none, none] trivial ?_
    exact k5 (1) (by simp only [if_pos z1])
  · refine ok_iload_n 0 dX10_outside_5 rfl rfl ?_
    refine ok_iload_n 2 dX10_outside_6 rfl rfl ?_
    refine ok_ic_le 14 dX10_outside_7 (by decide) (fun z2 => ?_) (fun z2 => ?_)
    · refine ok_iconst 0 dX10_outside_14 (by decide) ?_
      refine ok_wk [none, none, none] trivial ?_
      exact k5 (0) (by simp only [if_neg z1, if_pos z2])
    · refine ok_iconst 1 dX10_outside_10 (by decide) ?_
      refine ok_goto 15 dX10_outside_11 (by decide) ?_
      refine ok_wk [none, none, none] trivial ?_
      exact k5 (1) (by simp only [if_neg z1, if_neg z2])

set_option maxRecDepth 100000 in
set_option maxHeartbeats 4000000 in
theorem sX10_penaltyOf_0 {G : o_G} {d : Nat} {P : o_P} {i : o_I} {r : o_R} (v0 : Nat) (v1 : Int32)
    (h : SpI G d mX10_firstOf [.int v1] (fun x1 i1 => SpI G d mX10_secondOf [.int v1] (fun x2 i2 => (∀ x6 : Int32, x6 = (if v1 = 0 then 0 else (if x1 = 0 then 20 else (if x1 = x2 then 30 else 40))) → Ok G (d + 1) mX10_penaltyOf P 44 [some (.ref v0), none, some (.int x1), some (.int x2), some (.int x6), some (.int 0), none, none] [] i2 r)) i1 r) i r) :
    Ok G (d + 1) mX10_penaltyOf P 0 [some (.ref v0), some (.int v1), none, none, none, none, none, none] [] i r := by
  refine ok_iload_n 1 dX10_penaltyOf_0 rfl rfl ?_
  refine ok_cSi (rest := []) o_rc [.int v1] dX10_penaltyOf_1 k10_156 rfl rfl (Nat.le_of_ble_eq_true rfl) h (fun x1 i1 h => ?_)
  refine ok_istore_n 2 dX10_penaltyOf_4 rfl (by decide) [some (.ref v0), some (.int v1), some (.int x1), none, none, none, none, none] rfl ?_
  refine ok_iload_n 1 dX10_penaltyOf_5 rfl rfl ?_
  refine ok_cSi (rest := []) o_rc [.int v1] dX10_penaltyOf_6 k10_160 rfl rfl (Nat.le_of_ble_eq_true rfl) h (fun x2 i2 h => ?_)
  refine ok_istore_n 3 dX10_penaltyOf_9 rfl (by decide) [some (.ref v0), some (.int v1), some (.int x1), some (.int x2), none, none, none, none] rfl ?_
  refine ok_iload_n 1 dX10_penaltyOf_10 rfl rfl ?_
  have k7 : ∀ x6 : Int32, x6 = (if v1 = 0 then 0 else (if x1 = 0 then 20 else (if x1 = x2 then 30 else 40))) → Ok G (d + 1) mX10_penaltyOf P 39 [some (.ref v0), none, some (.int x1), some (.int x2), none, none, none, none] [.int x6] i2 r := by
    intro x6 ex6
    replace h := h x6 ex6
    refine ok_istore dX10_penaltyOf_39 (by decide) [some (.ref v0), none, some (.int x1), some (.int x2), some (.int x6), none, none, none] rfl ?_
    refine ok_iconst 0 dX10_penaltyOf_41 (by decide) ?_
    refine ok_istore dX10_penaltyOf_42 (by decide) [some (.ref v0), none, some (.int x1), some (.int x2), some (.int x6), some (.int 0), none, none] rfl ?_
    exact h
  clear h
  refine ok_if_ne 18 dX10_penaltyOf_11 (by decide) (fun z3 => ?_) (fun z3 => ?_)
  · refine ok_iload_n 2 dX10_penaltyOf_18 rfl rfl ?_
    refine ok_if_ne 27 dX10_penaltyOf_19 (by decide) (fun z4 => ?_) (fun z4 => ?_)
    · refine ok_iload_n 2 dX10_penaltyOf_27 rfl rfl ?_
      refine ok_iload_n 3 dX10_penaltyOf_28 rfl rfl ?_
      refine ok_ic_ne 37 dX10_penaltyOf_29 (by decide) (fun z5 => ?_) (fun z5 => ?_)
      · refine ok_bipush 40 dX10_penaltyOf_37 (by decide) ?_
        refine ok_wk [some (.ref v0), none, some (.int x1), some (.int x2), none, none, none, none] ⟨rfl, rfl, rfl, trivial⟩ ?_
        exact k7 (40) (by simp only [if_neg z3, if_neg z4, if_neg z5])
      · refine ok_bipush 30 dX10_penaltyOf_32 (by decide) ?_
        refine ok_goto 39 dX10_penaltyOf_34 (by decide) ?_
        refine ok_wk [some (.ref v0), none, some (.int x1), some (.int x2), none, none, none, none] ⟨rfl, rfl, rfl, trivial⟩ ?_
        exact k7 (30) (by simp only [if_neg z3, if_neg z4, if_pos z5])
    · refine ok_bipush 20 dX10_penaltyOf_22 (by decide) ?_
      refine ok_goto 39 dX10_penaltyOf_24 (by decide) ?_
      refine ok_wk [some (.ref v0), none, some (.int x1), some (.int x2), none, none, none, none] ⟨rfl, rfl, rfl, trivial⟩ ?_
      exact k7 (20) (by simp only [if_neg z3, if_pos z4])
  · refine ok_iconst 0 dX10_penaltyOf_14 (by decide) ?_
    refine ok_goto 39 dX10_penaltyOf_15 (by decide) ?_
    refine ok_wk [some (.ref v0), none, some (.int x1), some (.int x2), none, none, none, none] ⟨rfl, rfl, rfl, trivial⟩ ?_
    exact k7 (0) (by simp only [if_pos z3])

set_option maxRecDepth 100000 in
set_option maxHeartbeats 4000000 in
theorem sX10_penaltyOf_44 {G : o_G} {d : Nat} {P : o_P} {i : o_I} {r : o_R} (v0 : Nat) (v2 : Int32) (v3 : Int32) (v4 : Int32) (v5 : Int32)
    (h : o_O G v0 10 ∧ SpI G d mX10_seenMany [.ref v0] (fun x2 i2 => ((x2 ≤ v5 → P (some (.int v4)) i2 r) ∧ (¬ x2 ≤ v5 → SpI G d mX10_codeAt [.ref v0, .int v5] (fun x4 i4 => o_Y G (r v0 32) 1 ∧ vp_in v2 (o_len G (r v0 32)) ∧ (∀ x8 : Int32, x8 = (if x4 = (i4 (r v0 32) v2.toNatClampNeg) then 1 else 0) → SpI G d mX10_codeAt [.ref v0, .int v5] (fun x9 i9 => vp_in v3 (o_len G (r v0 32)) ∧ (∀ x12 : Int32, x12 = (if x9 = (i9 (r v0 32) v3.toNatClampNeg) then 1 else 0) → SpI G d mX10_placeOf [.ref v0, .int v5] (fun x13 i13 => ((¬ x13 = (i13 v0 29) → ∀ x15 : Int32, x15 = v5 + 1 → Ok G (d + 1) mX10_penaltyOf P 44 [some (.ref v0), none, some (.int v2), some (.int v3), some (.int v4), some (.int x15), none, none] [] i13 r) ∧ (x13 = (i13 v0 29) → ((x8 = 0 → ((¬ x8 = 0 → Ok G (d + 1) mX10_penaltyOf P 136 [some (.ref v0), none, some (.int v2), some (.int v3), none, some (.int v5), none, none] [.int v4] i13 r) ∧ (x8 = 0 → ((x12 = 0 → SpI G d mX10_qualityAt [.ref v0, .int v5] (fun x19 i19 => ∀ x20 : Int32, x20 = (v4 + x19) → ∀ x21 : Int32, x21 = v5 + 1 → Ok G (d + 1) mX10_penaltyOf P 44 [some (.ref v0), none, some (.int v2), some (.int v3), some (.int x20), some (.int x21), none, none] [] i19 r) i13 r) ∧ (¬ x12 = 0 → Ok G (d + 1) mX10_penaltyOf P 136 [some (.ref v0), none, some (.int v2), some (.int v3), none, some (.int v5), none, none] [.int v4] i13 r))))) ∧ (¬ x8 = 0 → ((x12 = 0 → ((¬ x8 = 0 → Ok G (d + 1) mX10_penaltyOf P 136 [some (.ref v0), none, some (.int v2), some (.int v3), none, some (.int v5), none, none] [.int v4] i13 r) ∧ (x8 = 0 → ((x12 = 0 → SpI G d mX10_qualityAt [.ref v0, .int v5] (fun x25 i25 => ∀ x26 : Int32, x26 = (v4 + x25) → ∀ x27 : Int32, x27 = v5 + 1 → Ok G (d + 1) mX10_penaltyOf P 44 [some (.ref v0), none, some (.int v2), some (.int v3), some (.int x26), some (.int x27), none, none] [] i25 r) i13 r) ∧ (¬ x12 = 0 → Ok G (d + 1) mX10_penaltyOf P 136 [some (.ref v0), none, some (.int v2), some (.int v3), none, some (.int v5), none, none] [.int v4] i13 r))))) ∧ (¬ x12 = 0 → ∀ x28 : Int32, x28 = (v4 + 0) → ∀ x29 : Int32, x29 = v5 + 1 → Ok G (d + 1) mX10_penaltyOf P 44 [some (.ref v0), none, some (.int v2), some (.int v3), some (.int x28), some (.int x29), none, none] [] i13 r))))))) i9 r)) i4 r)) i2 r))) i r) :
    Ok G (d + 1) mX10_penaltyOf P 44 [some (.ref v0), none, some (.int v2), some (.int v3), some (.int v4), some (.int v5), none, none] [] i r := by
  refine ok_iload dX10_penaltyOf_44 rfl ?_
  refine ok_aload_n 0 dX10_penaltyOf_46 rfl rfl ?_
  obtain ⟨c1, h⟩ := h
  refine ok_cVi (rest := [.int v5]) o_rc 10 [] dX10_penaltyOf_47 k10_163 c1 rfl rfl (Nat.le_of_ble_eq_true rfl) h (fun x2 i2 h => ?_)
  refine ok_ic_ge 155 dX10_penaltyOf_50 (by decide) (fun z3 => ?_) (fun z3 => ?_)
  · replace h := h.1 z3
    refine ok_iload dX10_penaltyOf_155 rfl ?_
    exact ok_iret .int dX10_penaltyOf_157 rfl rfl h
  · replace h := h.2 z3
    refine ok_aload_n 0 dX10_penaltyOf_53 rfl rfl ?_
    refine ok_iload dX10_penaltyOf_54 rfl ?_
    refine ok_cVi (rest := []) o_rc 10 [.int v5] dX10_penaltyOf_56 k10_167 c1 rfl rfl (Nat.le_of_ble_eq_true rfl) h (fun x4 i4 h => ?_)
    refine ok_aload_n 0 dX10_penaltyOf_59 rfl rfl ?_
    refine ok_getr 10 32 dX10_penaltyOf_60 f10_80 rfl c1 ?_
    refine ok_iload_n 2 dX10_penaltyOf_63 rfl rfl ?_
    obtain ⟨c5, h⟩ := h
    obtain ⟨c6, h⟩ := h
    refine ok_iald dX10_penaltyOf_64 c5 c6 ?_
    have k31 : ∀ x8 : Int32, x8 = (if x4 = (i4 (r v0 32) v2.toNatClampNeg) then 1 else 0) → Ok G (d + 1) mX10_penaltyOf P 73 [some (.ref v0), none, some (.int v2), some (.int v3), some (.int v4), some (.int v5), none, none] [.int x8] i4 r := by
      intro x8 ex8
      replace h := h x8 ex8
      refine ok_istore dX10_penaltyOf_73 (by decide) [some (.ref v0), none, some (.int v2), some (.int v3), some (.int v4), some (.int v5), some (.int x8), none] rfl ?_
      refine ok_aload_n 0 dX10_penaltyOf_75 rfl rfl ?_
      refine ok_iload dX10_penaltyOf_76 rfl ?_
      refine ok_cVi (rest := []) o_rc 10 [.int v5] dX10_penaltyOf_78 k10_167 c1 rfl rfl (Nat.le_of_ble_eq_true rfl) h (fun x9 i9 h => ?_)
      refine ok_aload_n 0 dX10_penaltyOf_81 rfl rfl ?_
      refine ok_getr 10 32 dX10_penaltyOf_82 f10_80 rfl c1 ?_
      refine ok_iload_n 3 dX10_penaltyOf_85 rfl rfl ?_
      obtain ⟨c10, h⟩ := h
      refine ok_iald dX10_penaltyOf_86 c5 c10 ?_
      have k30 : ∀ x12 : Int32, x12 = (if x9 = (i9 (r v0 32) v3.toNatClampNeg) then 1 else 0) → Ok G (d + 1) mX10_penaltyOf P 95 [some (.ref v0), none, some (.int v2), some (.int v3), some (.int v4), some (.int v5), some (.int x8), none] [.int x12] i9 r := by
        intro x12 ex12
        replace h := h x12 ex12
        refine ok_istore dX10_penaltyOf_95 (by decide) [some (.ref v0), none, some (.int v2), some (.int v3), some (.int v4), some (.int v5), some (.int x8), some (.int x12)] rfl ?_
        refine ok_aload_n 0 dX10_penaltyOf_97 rfl rfl ?_
        refine ok_iload dX10_penaltyOf_98 rfl ?_
        refine ok_cVi (rest := []) o_rc 10 [.int v5] dX10_penaltyOf_100 k10_170 c1 rfl rfl (Nat.le_of_ble_eq_true rfl) h (fun x13 i13 h => ?_)
        refine ok_aload_n 0 dX10_penaltyOf_103 rfl rfl ?_
        refine ok_geti 10 29 dX10_penaltyOf_104 f10_173 rfl c1 ?_
        refine ok_ic_ne 149 dX10_penaltyOf_107 (by decide) (fun z14 => ?_) (fun z14 => ?_)
        · replace h := h.1 z14
          refine ok_eqi (v5 + 1) (fun x15 ex15 => ?_)
          replace h := h x15 ex15
          refine ok_iinc 1 x15 dX10_penaltyOf_149 rfl (by decide) ex15 (by decide) [some (.ref v0), none, some (.int v2), some (.int v3), some (.int v4), some (.int x15), some (.int x8), some (.int x12)] rfl ?_
          refine ok_goto 44 dX10_penaltyOf_152 (by decide) ?_
          refine ok_wk [some (.ref v0), none, some (.int v2), some (.int v3), some (.int v4), some (.int x15), none, none] ⟨rfl, rfl, rfl, rfl, rfl, trivial⟩ ?_
          exact h
        · replace h := h.2 z14
          refine ok_iload dX10_penaltyOf_110 rfl ?_
          refine ok_iload dX10_penaltyOf_112 rfl ?_
          refine ok_if_eq 126 dX10_penaltyOf_114 (by decide) (fun z16 => ?_) (fun z16 => ?_)
          · replace h := h.1 z16
            refine ok_iload dX10_penaltyOf_126 rfl ?_
            refine ok_if_ne 136 dX10_penaltyOf_128 (by decide) (fun z17 => ?_) (fun z17 => ?_)
            · replace h := h.1 z17
              refine ok_wk [some (.ref v0), none, some (.int v2), some (.int v3), none, some (.int v5), none, none] ⟨rfl, rfl, rfl, rfl, trivial⟩ ?_
              exact h
            · replace h := h.2 z17
              refine ok_iload dX10_penaltyOf_131 rfl ?_
              refine ok_if_eq 140 dX10_penaltyOf_133 (by decide) (fun z18 => ?_) (fun z18 => ?_)
              · replace h := h.1 z18
                refine ok_aload_n 0 dX10_penaltyOf_140 rfl rfl ?_
                refine ok_iload dX10_penaltyOf_141 rfl ?_
                refine ok_cVi (rest := [.int v4]) o_rc 10 [.int v5] dX10_penaltyOf_143 k10_176 c1 rfl rfl (Nat.le_of_ble_eq_true rfl) h (fun x19 i19 h => ?_)
                refine ok_iadd dX10_penaltyOf_146 ?_
                refine ok_topi (fun x20 ex20 => ?_)
                replace h := h x20 ex20
                refine ok_istore dX10_penaltyOf_147 (by decide) [some (.ref v0), none, some (.int v2), some (.int v3), some (.int x20), some (.int v5), some (.int x8), some (.int x12)] rfl ?_
                refine ok_eqi (v5 + 1) (fun x21 ex21 => ?_)
                replace h := h x21 ex21
                refine ok_iinc 1 x21 dX10_penaltyOf_149 rfl (by decide) ex21 (by decide) [some (.ref v0), none, some (.int v2), some (.int v3), some (.int x20), some (.int x21), some (.int x8), some (.int x12)] rfl ?_
                refine ok_goto 44 dX10_penaltyOf_152 (by decide) ?_
                refine ok_wk [some (.ref v0), none, some (.int v2), some (.int v3), some (.int x20), some (.int x21), none, none] ⟨rfl, rfl, rfl, rfl, rfl, trivial⟩ ?_
                exact h
              · replace h := h.2 z18
                refine ok_wk [some (.ref v0), none, some (.int v2), some (.int v3), none, some (.int v5), none, none] ⟨rfl, rfl, rfl, rfl, trivial⟩ ?_
                exact h
          · replace h := h.2 z16
            refine ok_iload dX10_penaltyOf_117 rfl ?_
            refine ok_if_eq 126 dX10_penaltyOf_119 (by decide) (fun z22 => ?_) (fun z22 => ?_)
            · replace h := h.1 z22
              refine ok_iload dX10_penaltyOf_126 rfl ?_
              refine ok_if_ne 136 dX10_penaltyOf_128 (by decide) (fun z23 => ?_) (fun z23 => ?_)
              · replace h := h.1 z23
                refine ok_wk [some (.ref v0), none, some (.int v2), some (.int v3), none, some (.int v5), none, none] ⟨rfl, rfl, rfl, rfl, trivial⟩ ?_
                exact h
              · replace h := h.2 z23
                refine ok_iload dX10_penaltyOf_131 rfl ?_
                refine ok_if_eq 140 dX10_penaltyOf_133 (by decide) (fun z24 => ?_) (fun z24 => ?_)
                · replace h := h.1 z24
                  refine ok_aload_n 0 dX10_penaltyOf_140 rfl rfl ?_
                  refine ok_iload dX10_penaltyOf_141 rfl ?_
                  refine ok_cVi (rest := [.int v4]) o_rc 10 [.int v5] dX10_penaltyOf_143 k10_176 c1 rfl rfl (Nat.le_of_ble_eq_true rfl) h (fun x25 i25 h => ?_)
                  refine ok_iadd dX10_penaltyOf_146 ?_
                  refine ok_topi (fun x26 ex26 => ?_)
                  replace h := h x26 ex26
                  refine ok_istore dX10_penaltyOf_147 (by decide) [some (.ref v0), none, some (.int v2), some (.int v3), some (.int x26), some (.int v5), some (.int x8), some (.int x12)] rfl ?_
                  refine ok_eqi (v5 + 1) (fun x27 ex27 => ?_)
                  replace h := h x27 ex27
                  refine ok_iinc 1 x27 dX10_penaltyOf_149 rfl (by decide) ex27 (by decide) [some (.ref v0), none, some (.int v2), some (.int v3), some (.int x26), some (.int x27), some (.int x8), some (.int x12)] rfl ?_
                  refine ok_goto 44 dX10_penaltyOf_152 (by decide) ?_
                  refine ok_wk [some (.ref v0), none, some (.int v2), some (.int v3), some (.int x26), some (.int x27), none, none] ⟨rfl, rfl, rfl, rfl, rfl, trivial⟩ ?_
                  exact h
                · replace h := h.2 z24
                  refine ok_wk [some (.ref v0), none, some (.int v2), some (.int v3), none, some (.int v5), none, none] ⟨rfl, rfl, rfl, rfl, trivial⟩ ?_
                  exact h
            · replace h := h.2 z22
              refine ok_iconst 0 dX10_penaltyOf_122 (by decide) ?_
              refine ok_goto 146 dX10_penaltyOf_123 (by decide) ?_
              refine ok_iadd dX10_penaltyOf_146 ?_
              refine ok_topi (fun x28 ex28 => ?_)
              replace h := h x28 ex28
              refine ok_istore dX10_penaltyOf_147 (by decide) [some (.ref v0), none, some (.int v2), some (.int v3), some (.int x28), some (.int v5), some (.int x8), some (.int x12)] rfl ?_
              refine ok_eqi (v5 + 1) (fun x29 ex29 => ?_)
              replace h := h x29 ex29
              refine ok_iinc 1 x29 dX10_penaltyOf_149 rfl (by decide) ex29 (by decide) [some (.ref v0), none, some (.int v2), some (.int v3), some (.int x28), some (.int x29), some (.int x8), some (.int x12)] rfl ?_
              refine ok_goto 44 dX10_penaltyOf_152 (by decide) ?_
              refine ok_wk [some (.ref v0), none, some (.int v2), some (.int v3), some (.int x28), some (.int x29), none, none] ⟨rfl, rfl, rfl, rfl, rfl, trivial⟩ ?_
              exact h
      clear h
      refine ok_ic_ne 94 dX10_penaltyOf_87 (by decide) (fun z11 => ?_) (fun z11 => ?_)
      · refine ok_iconst 0 dX10_penaltyOf_94 (by decide) ?_
        exact k30 (0) (by simp only [if_neg z11])
      · refine ok_iconst 1 dX10_penaltyOf_90 (by decide) ?_
        refine ok_goto 95 dX10_penaltyOf_91 (by decide) ?_
        exact k30 (1) (by simp only [if_pos z11])
    clear h
    refine ok_ic_ne 72 dX10_penaltyOf_65 (by decide) (fun z7 => ?_) (fun z7 => ?_)
    · refine ok_iconst 0 dX10_penaltyOf_72 (by decide) ?_
      exact k31 (0) (by simp only [if_neg z7])
    · refine ok_iconst 1 dX10_penaltyOf_68 (by decide) ?_
      refine ok_goto 73 dX10_penaltyOf_69 (by decide) ?_
      exact k31 (1) (by simp only [if_pos z7])

set_option maxRecDepth 100000 in
set_option maxHeartbeats 4000000 in
theorem sX10_penaltyOf_136 {G : o_G} {d : Nat} {P : o_P} {i : o_I} {r : o_R} (v0 : Nat) (v2 : Int32) (v3 : Int32) (v5 : Int32) (s0 : Int32)
    (h : ∀ x1 : Int32, x1 = (s0 + 3) → ∀ x2 : Int32, x2 = v5 + 1 → Ok G (d + 1) mX10_penaltyOf P 44 [some (.ref v0), none, some (.int v2), some (.int v3), some (.int x1), some (.int x2), none, none] [] i r) :
    Ok G (d + 1) mX10_penaltyOf P 136 [some (.ref v0), none, some (.int v2), some (.int v3), none, some (.int v5), none, none] [.int s0] i r := by
  refine ok_iconst 3 dX10_penaltyOf_136 (by decide) ?_
  refine ok_goto 146 dX10_penaltyOf_137 (by decide) ?_
  refine ok_iadd dX10_penaltyOf_146 ?_
  refine ok_topi (fun x1 ex1 => ?_)
  replace h := h x1 ex1
  refine ok_istore dX10_penaltyOf_147 (by decide) [some (.ref v0), none, some (.int v2), some (.int v3), some (.int x1), some (.int v5), none, none] rfl ?_
  refine ok_eqi (v5 + 1) (fun x2 ex2 => ?_)
  replace h := h x2 ex2
  refine ok_iinc 1 x2 dX10_penaltyOf_149 rfl (by decide) ex2 (by decide) [some (.ref v0), none, some (.int v2), some (.int v3), some (.int x1), some (.int x2), none, none] rfl ?_
  refine ok_goto 44 dX10_penaltyOf_152 (by decide) ?_
  exact h

set_option maxRecDepth 100000 in
set_option maxHeartbeats 4000000 in
theorem sX10_place_0 {G : o_G} {d : Nat} {P : o_P} {i : o_I} {r : o_R} (v0 : Nat) (v1 : Int32) (v2 : Int32)
    (h : o_O G v0 10 ∧ SpI G d mX10_outside [.int v1, .int 0, .int ((i v0 6) - 1)] (fun x2 i2 => ((¬ x2 = 0 → P (some (.int (-1))) i2 r) ∧ (x2 = 0 → SpI G d mX10_outside [.int v2, .int 0, .int 4] (fun x4 i4 => ((¬ x4 = 0 → P (some (.int (-1))) i4 r) ∧ (x4 = 0 → ((v2 ≤ 0 → Ok G (d + 1) mX10_place P 38 [some (.ref v0), some (.int v1), some (.int v2)] [] i4 r) ∧ (¬ v2 ≤ 0 → o_Y G (r v0 10) 1 ∧ vp_in v1 (o_len G (r v0 10)) ∧ (((i4 (r v0 10) v1.toNatClampNeg) = 0 → Ok G (d + 1) mX10_place P 38 [some (.ref v0), some (.int v1), some (.int v2)] [] i4 r) ∧ (¬ (i4 (r v0 10) v1.toNatClampNeg) = 0 → P (some (.int (-1))) i4 r))))))) i2 r))) i r) :
    Ok G (d + 1) mX10_place P 0 [some (.ref v0), some (.int v1), some (.int v2)] [] i r := by
  refine ok_iload_n 1 dX10_place_0 rfl rfl ?_
  refine ok_iconst 0 dX10_place_1 (by decide) ?_
  refine ok_aload_n 0 dX10_place_2 rfl rfl ?_
  obtain ⟨c1, h⟩ := h
  refine ok_geti 10 6 dX10_place_3 f10_123 rfl c1 ?_
  refine ok_iconst 1 dX10_place_6 (by decide) ?_
  refine ok_isub dX10_place_7 ?_
  refine ok_cSi (rest := []) o_rc [.int v1, .int 0, .int ((i v0 6) - 1)] dX10_place_8 k10_89 rfl rfl (Nat.le_of_ble_eq_true rfl) h (fun x2 i2 h => ?_)
  refine ok_if_ne 36 dX10_place_11 (by decide) (fun z3 => ?_) (fun z3 => ?_)
  · replace h := h.1 z3
    refine ok_iconst (-1) dX10_place_36 (by decide) ?_
    exact ok_iret .int dX10_place_37 rfl rfl h
  · replace h := h.2 z3
    refine ok_iload_n 2 dX10_place_14 rfl rfl ?_
    refine ok_iconst 0 dX10_place_15 (by decide) ?_
    refine ok_iconst 4 dX10_place_16 (by decide) ?_
    refine ok_cSi (rest := []) o_rc [.int v2, .int 0, .int 4] dX10_place_17 k10_89 rfl rfl (Nat.le_of_ble_eq_true rfl) h (fun x4 i4 h => ?_)
    refine ok_if_ne 36 dX10_place_20 (by decide) (fun z5 => ?_) (fun z5 => ?_)
    · replace h := h.1 z5
      refine ok_iconst (-1) dX10_place_36 (by decide) ?_
      exact ok_iret .int dX10_place_37 rfl rfl h
    · replace h := h.2 z5
      refine ok_iload_n 2 dX10_place_23 rfl rfl ?_
      refine ok_if_le 38 dX10_place_24 (by decide) (fun z6 => ?_) (fun z6 => ?_)
      · replace h := h.1 z6
        exact h
      · replace h := h.2 z6
        refine ok_aload_n 0 dX10_place_27 rfl rfl ?_
        refine ok_getr 10 10 dX10_place_28 f10_32 rfl c1 ?_
        refine ok_iload_n 1 dX10_place_31 rfl rfl ?_
        obtain ⟨c7, h⟩ := h
        obtain ⟨c8, h⟩ := h
        refine ok_iald dX10_place_32 c7 c8 ?_
        refine ok_if_eq 38 dX10_place_33 (by decide) (fun z9 => ?_) (fun z9 => ?_)
        · replace h := h.1 z9
          exact h
        · replace h := h.2 z9
          refine ok_iconst (-1) dX10_place_36 (by decide) ?_
          exact ok_iret .int dX10_place_37 rfl rfl h

set_option maxRecDepth 100000 in
set_option maxHeartbeats 4000000 in
theorem sX10_place_38 {G : o_G} {d : Nat} {P : o_P} {i : o_I} {r : o_R} (v0 : Nat) (v1 : Int32) (v2 : Int32)
    (h : ((¬ v2 = 0 → ((¬ v2 = 1 → ((¬ v2 = 2 → ((¬ v2 = 3 → o_O G v0 10 ∧ o_Y G (r v0 14) 1 ∧ vp_in v1 (o_len G (r v0 14)) ∧ True) ∧ (v2 = 3 → o_O G v0 10 ∧ o_Y G (r v0 13) 1 ∧ vp_in v1 (o_len G (r v0 13)) ∧ True))) ∧ (v2 = 2 → o_O G v0 10 ∧ o_Y G (r v0 12) 1 ∧ vp_in v1 (o_len G (r v0 12)) ∧ True))) ∧ (v2 = 1 → o_O G v0 10 ∧ o_Y G (r v0 11) 1 ∧ vp_in v1 (o_len G (r v0 11)) ∧ True))) ∧ (v2 = 0 → o_O G v0 10 ∧ o_Y G (r v0 10) 1 ∧ vp_in v1 (o_len G (r v0 10)) ∧ True)) ∧ (∀ x20 : Int32, x20 = (if v2 = 0 then (i (r v0 10) v1.toNatClampNeg) else (if v2 = 1 then (i (r v0 11) v1.toNatClampNeg) else (if v2 = 2 then (i (r v0 12) v1.toNatClampNeg) else (if v2 = 3 then (i (r v0 13) v1.toNatClampNeg) else (i (r v0 14) v1.toNatClampNeg))))) → P (some (.int x20)) i r)) :
    Ok G (d + 1) mX10_place P 38 [some (.ref v0), some (.int v1), some (.int v2)] [] i r := by
  refine ok_iload_n 2 dX10_place_38 rfl rfl ?_
  obtain ⟨hs, h⟩ := h
  have k21 : ∀ x20 : Int32, x20 = (if v2 = 0 then (i (r v0 10) v1.toNatClampNeg) else (if v2 = 1 then (i (r v0 11) v1.toNatClampNeg) else (if v2 = 2 then (i (r v0 12) v1.toNatClampNeg) else (if v2 = 3 then (i (r v0 13) v1.toNatClampNeg) else (i (r v0 14) v1.toNatClampNeg))))) → Ok G (d + 1) mX10_place P 99 [none, none, none] [.int x20] i r := by
    intro x20 ex20
    replace h := h x20 ex20
    exact ok_iret .int dX10_place_99 rfl rfl h
  clear h
  refine ok_if_ne 51 dX10_place_39 (by decide) (fun z1 => ?_) (fun z1 => ?_)
  · replace hs := hs.1 z1
    refine ok_iload_n 2 dX10_place_51 rfl rfl ?_
    refine ok_iconst 1 dX10_place_52 (by decide) ?_
    refine ok_ic_ne 65 dX10_place_53 (by decide) (fun z2 => ?_) (fun z2 => ?_)
    · replace hs := hs.1 z2
      refine ok_iload_n 2 dX10_place_65 rfl rfl ?_
      refine ok_iconst 2 dX10_place_66 (by decide) ?_
      refine ok_ic_ne 79 dX10_place_67 (by decide) (fun z3 => ?_) (fun z3 => ?_)
      · replace hs := hs.1 z3
        refine ok_iload_n 2 dX10_place_79 rfl rfl ?_
        refine ok_iconst 3 dX10_place_80 (by decide) ?_
        refine ok_ic_ne 93 dX10_place_81 (by decide) (fun z4 => ?_) (fun z4 => ?_)
        · replace hs := hs.1 z4
          refine ok_aload_n 0 dX10_place_93 rfl rfl ?_
          obtain ⟨c5, hs⟩  := hs
          refine ok_getr 10 14 dX10_place_94 f10_44 rfl c5 ?_
          refine ok_iload_n 1 dX10_place_97 rfl rfl ?_
          obtain ⟨c6, hs⟩  := hs
          obtain ⟨c7, hs⟩  := hs
          refine ok_iald dX10_place_98 c6 c7 ?_
          refine ok_wk [none, none, none] trivial ?_
          exact k21 ((i (r v0 14) v1.toNatClampNeg)) (by simp only [if_neg z1, if_neg z2, if_neg z3, if_neg z4])
        · replace hs := hs.2 z4
          refine ok_aload_n 0 dX10_place_84 rfl rfl ?_
          obtain ⟨c8, hs⟩  := hs
          refine ok_getr 10 13 dX10_place_85 f10_41 rfl c8 ?_
          refine ok_iload_n 1 dX10_place_88 rfl rfl ?_
          obtain ⟨c9, hs⟩  := hs
          obtain ⟨c10, hs⟩  := hs
          refine ok_iald dX10_place_89 c9 c10 ?_
          refine ok_goto 99 dX10_place_90 (by decide) ?_
          refine ok_wk [none, none, none] trivial ?_
          exact k21 ((i (r v0 13) v1.toNatClampNeg)) (by simp only [if_neg z1, if_neg z2, if_neg z3, if_pos z4])
      · replace hs := hs.2 z3
        refine ok_aload_n 0 dX10_place_70 rfl rfl ?_
        obtain ⟨c11, hs⟩  := hs
        refine ok_getr 10 12 dX10_place_71 f10_38 rfl c11 ?_
        refine ok_iload_n 1 dX10_place_74 rfl rfl ?_
        obtain ⟨c12, hs⟩  := hs
        obtain ⟨c13, hs⟩  := hs
        refine ok_iald dX10_place_75 c12 c13 ?_
        refine ok_goto 99 dX10_place_76 (by decide) ?_
        refine ok_wk [none, none, none] trivial ?_
        exact k21 ((i (r v0 12) v1.toNatClampNeg)) (by simp only [if_neg z1, if_neg z2, if_pos z3])
    · replace hs := hs.2 z2
      refine ok_aload_n 0 dX10_place_56 rfl rfl ?_
      obtain ⟨c14, hs⟩  := hs
      refine ok_getr 10 11 dX10_place_57 f10_35 rfl c14 ?_
      refine ok_iload_n 1 dX10_place_60 rfl rfl ?_
      obtain ⟨c15, hs⟩  := hs
      obtain ⟨c16, hs⟩  := hs
      refine ok_iald dX10_place_61 c15 c16 ?_
      refine ok_goto 99 dX10_place_62 (by decide) ?_
      refine ok_wk [none, none, none] trivial ?_
      exact k21 ((i (r v0 11) v1.toNatClampNeg)) (by simp only [if_neg z1, if_pos z2])
  · replace hs := hs.2 z1
    refine ok_aload_n 0 dX10_place_42 rfl rfl ?_
    obtain ⟨c17, hs⟩  := hs
    refine ok_getr 10 10 dX10_place_43 f10_32 rfl c17 ?_
    refine ok_iload_n 1 dX10_place_46 rfl rfl ?_
    obtain ⟨c18, hs⟩  := hs
    obtain ⟨c19, hs⟩  := hs
    refine ok_iald dX10_place_47 c18 c19 ?_
    refine ok_goto 99 dX10_place_48 (by decide) ?_
    refine ok_wk [none, none, none] trivial ?_
    exact k21 ((i (r v0 10) v1.toNatClampNeg)) (by simp only [if_pos z1])

set_option maxRecDepth 100000 in
set_option maxHeartbeats 4000000 in
theorem sX10_placeOf_0 {G : o_G} {d : Nat} {P : o_P} {i : o_I} {r : o_R} (v0 : Nat) (v1 : Int32)
    (h : o_O G v0 10 ∧ (((i v0 28) = 0 → o_Y G (r v0 21) 1 ∧ vp_in v1 (o_len G (r v0 21)) ∧ True) ∧ (¬ (i v0 28) = 0 → o_Y G (r v0 25) 1 ∧ vp_in v1 (o_len G (r v0 25)) ∧ True)) ∧ (∀ x7 : Int32, x7 = (if (i v0 28) = 0 then (i (r v0 21) v1.toNatClampNeg) else (i (r v0 25) v1.toNatClampNeg)) → P (some (.int x7)) i r)) :
    Ok G (d + 1) mX10_placeOf P 0 [some (.ref v0), some (.int v1)] [] i r := by
  refine ok_aload_n 0 dX10_placeOf_0 rfl rfl ?_
  obtain ⟨c1, h⟩ := h
  refine ok_geti 10 28 dX10_placeOf_1 f10_149 rfl c1 ?_
  obtain ⟨hs, h⟩ := h
  have k8 : ∀ x7 : Int32, x7 = (if (i v0 28) = 0 then (i (r v0 21) v1.toNatClampNeg) else (i (r v0 25) v1.toNatClampNeg)) → Ok G (d + 1) mX10_placeOf P 22 [none, none] [.int x7] i r := by
    intro x7 ex7
    replace h := h x7 ex7
    exact ok_iret .int dX10_placeOf_22 rfl rfl h
  clear h
  refine ok_if_eq 16 dX10_placeOf_4 (by decide) (fun z2 => ?_) (fun z2 => ?_)
  · replace hs := hs.1 z2
    refine ok_aload_n 0 dX10_placeOf_16 rfl rfl ?_
    refine ok_getr 10 21 dX10_placeOf_17 f10_62 rfl c1 ?_
    refine ok_iload_n 1 dX10_placeOf_20 rfl rfl ?_
    obtain ⟨c3, hs⟩  := hs
    obtain ⟨c4, hs⟩  := hs
    refine ok_iald dX10_placeOf_21 c3 c4 ?_
    refine ok_wk [none, none] trivial ?_
    exact k8 ((i (r v0 21) v1.toNatClampNeg)) (by simp only [if_pos z2])
  · replace hs := hs.2 z2
    refine ok_aload_n 0 dX10_placeOf_7 rfl rfl ?_
    refine ok_getr 10 25 dX10_placeOf_8 f10_71 rfl c1 ?_
    refine ok_iload_n 1 dX10_placeOf_11 rfl rfl ?_
    obtain ⟨c5, hs⟩  := hs
    obtain ⟨c6, hs⟩  := hs
    refine ok_iald dX10_placeOf_12 c5 c6 ?_
    refine ok_goto 22 dX10_placeOf_13 (by decide) ?_
    refine ok_wk [none, none] trivial ?_
    exact k8 ((i (r v0 25) v1.toNatClampNeg)) (by simp only [if_neg z2])

set_option maxRecDepth 100000 in
set_option maxHeartbeats 4000000 in
theorem sX10_put_0 {G : o_G} {d : Nat} {P : o_P} {i : o_I} {r : o_R} (v0 : Nat) (v1 : Int32) (v2 : Int32) (v3 : Int32)
    (h : SpI G d mX10_outside [.int v1, .int 0, .int 1] (fun x1 i1 => ((¬ x1 = 0 → P (some (.int 0)) i1 r) ∧ (x1 = 0 → SpI G d mX10_outside [.int v3, .int 1, .int 4] (fun x3 i3 => ((¬ x3 = 0 → P (some (.int 0)) i3 r) ∧ (x3 = 0 → o_O G v0 10 ∧ o_Y G (r v0 1) 1 ∧ vp_in v1 (o_len G (r v0 1)) ∧ (∀ x9 : Int32, x9 = (if v1 = 0 then 100 else 420) → ((((i3 (r v0 1) v1.toNatClampNeg) + v3) ≤ x9 → Ok G (d + 1) mX10_put P 46 [some (.ref v0), some (.int v1), some (.int v2), some (.int v3), some (.int 0), none] [] i3 r) ∧ (¬ ((i3 (r v0 1) v1.toNatClampNeg) + v3) ≤ x9 → P (some (.int 0)) i3 r)))))) i1 r))) i r) :
    Ok G (d + 1) mX10_put P 0 [some (.ref v0), some (.int v1), some (.int v2), some (.int v3), none, none] [] i r := by
  refine ok_iload_n 1 dX10_put_0 rfl rfl ?_
  refine ok_iconst 0 dX10_put_1 (by decide) ?_
  refine ok_iconst 1 dX10_put_2 (by decide) ?_
  refine ok_cSi (rest := []) o_rc [.int v1, .int 0, .int 1] dX10_put_3 k10_89 rfl rfl (Nat.le_of_ble_eq_true rfl) h (fun x1 i1 h => ?_)
  refine ok_if_ne 41 dX10_put_6 (by decide) (fun z2 => ?_) (fun z2 => ?_)
  · replace h := h.1 z2
    refine ok_iconst 0 dX10_put_41 (by decide) ?_
    exact ok_iret .boolean dX10_put_42 rfl rfl h
  · replace h := h.2 z2
    refine ok_iload_n 3 dX10_put_9 rfl rfl ?_
    refine ok_iconst 1 dX10_put_10 (by decide) ?_
    refine ok_iconst 4 dX10_put_11 (by decide) ?_
    refine ok_cSi (rest := []) o_rc [.int v3, .int 1, .int 4] dX10_put_12 k10_89 rfl rfl (Nat.le_of_ble_eq_true rfl) h (fun x3 i3 h => ?_)
    refine ok_if_ne 41 dX10_put_15 (by decide) (fun z4 => ?_) (fun z4 => ?_)
    · replace h := h.1 z4
      refine ok_iconst 0 dX10_put_41 (by decide) ?_
      exact ok_iret .boolean dX10_put_42 rfl rfl h
    · replace h := h.2 z4
      refine ok_aload_n 0 dX10_put_18 rfl rfl ?_
      obtain ⟨c5, h⟩ := h
      refine ok_getr 10 1 dX10_put_19 f10_13 rfl c5 ?_
      refine ok_iload_n 1 dX10_put_22 rfl rfl ?_
      obtain ⟨c6, h⟩ := h
      obtain ⟨c7, h⟩ := h
      refine ok_iald dX10_put_23 c6 c7 ?_
      refine ok_iload_n 3 dX10_put_24 rfl rfl ?_
      refine ok_iadd dX10_put_25 ?_
      refine ok_iload_n 1 dX10_put_26 rfl rfl ?_
      have k11 : ∀ x9 : Int32, x9 = (if v1 = 0 then 100 else 420) → Ok G (d + 1) mX10_put P 38 [some (.ref v0), some (.int v1), some (.int v2), some (.int v3), none, none] [.int x9, .int ((i3 (r v0 1) v1.toNatClampNeg) + v3)] i3 r := by
        intro x9 ex9
        replace h := h x9 ex9
        refine ok_ic_le 43 dX10_put_38 (by decide) (fun z10 => ?_) (fun z10 => ?_)
        · replace h := h.1 z10
          refine ok_iconst 0 dX10_put_43 (by decide) ?_
          refine ok_istore dX10_put_44 (by decide) [some (.ref v0), some (.int v1), some (.int v2), some (.int v3), some (.int 0), none] rfl ?_
          exact h
        · replace h := h.2 z10
          refine ok_iconst 0 dX10_put_41 (by decide) ?_
          exact ok_iret .boolean dX10_put_42 rfl rfl h
      clear h
      refine ok_if_ne 35 dX10_put_27 (by decide) (fun z8 => ?_) (fun z8 => ?_)
      · refine ok_sipush 420 dX10_put_35 (by decide) ?_
        exact k11 (420) (by simp only [if_neg z8])
      · refine ok_bipush 100 dX10_put_30 (by decide) ?_
        refine ok_goto 38 dX10_put_32 (by decide) ?_
        exact k11 (100) (by simp only [if_pos z8])

set_option maxRecDepth 100000 in
set_option maxHeartbeats 4000000 in
theorem sX10_put_46 {G : o_G} {d : Nat} {P : o_P} {i : o_I} {r : o_R} (v0 : Nat) (v1 : Int32) (v2 : Int32) (v3 : Int32) (v4 : Int32)
    (h : ((v3 ≤ v4 → ∀ x2 : Int32, x2 = (v3 - 1) → Ok G (d + 1) mX10_put P 97 [some (.ref v0), some (.int v1), some (.int v2), none, some (.int x2), none] [] i r) ∧ (¬ v3 ≤ v4 → ∀ x3 : Int32, x3 = ((v2 >>> ((8 * v4) &&& 31)) &&& 255) → ((x3 = 10 → ∀ x5 : Int32, x5 = v4 + 1 → Ok G (d + 1) mX10_put P 46 [some (.ref v0), some (.int v1), some (.int v2), some (.int v3), some (.int x5), none] [] i r) ∧ (¬ x3 = 10 → SpI G d mX10_outside [.int x3, .int 32, .int 126] (fun x6 i6 => ((x6 = 0 → ∀ x8 : Int32, x8 = v4 + 1 → Ok G (d + 1) mX10_put P 46 [some (.ref v0), some (.int v1), some (.int v2), some (.int v3), some (.int x8), none] [] i6 r) ∧ (¬ x6 = 0 → P (some (.int 0)) i6 r))) i r))))) :
    Ok G (d + 1) mX10_put P 46 [some (.ref v0), some (.int v1), some (.int v2), some (.int v3), some (.int v4), none] [] i r := by
  refine ok_iload dX10_put_46 rfl ?_
  refine ok_iload_n 3 dX10_put_48 rfl rfl ?_
  refine ok_ic_ge 92 dX10_put_49 (by decide) (fun z1 => ?_) (fun z1 => ?_)
  · replace h := h.1 z1
    refine ok_iload_n 3 dX10_put_92 rfl rfl ?_
    refine ok_iconst 1 dX10_put_93 (by decide) ?_
    refine ok_isub dX10_put_94 ?_
    refine ok_topi (fun x2 ex2 => ?_)
    replace h := h x2 ex2
    refine ok_istore dX10_put_95 (by decide) [some (.ref v0), some (.int v1), some (.int v2), some (.int v3), some (.int x2), none] rfl ?_
    refine ok_wk [some (.ref v0), some (.int v1), some (.int v2), none, some (.int x2), none] ⟨rfl, rfl, rfl, rfl, trivial⟩ ?_
    exact h
  · replace h := h.2 z1
    refine ok_iload_n 2 dX10_put_52 rfl rfl ?_
    refine ok_bipush 8 dX10_put_53 (by decide) ?_
    refine ok_iload dX10_put_55 rfl ?_
    refine ok_imul dX10_put_57 ?_
    refine ok_ishr dX10_put_58 ?_
    refine ok_sipush 255 dX10_put_59 (by decide) ?_
    refine ok_iand dX10_put_62 ?_
    refine ok_topi (fun x3 ex3 => ?_)
    replace h := h x3 ex3
    refine ok_istore dX10_put_63 (by decide) [some (.ref v0), some (.int v1), some (.int v2), some (.int v3), some (.int v4), some (.int x3)] rfl ?_
    refine ok_iload dX10_put_65 rfl ?_
    refine ok_bipush 10 dX10_put_67 (by decide) ?_
    refine ok_ic_eq 86 dX10_put_69 (by decide) (fun z4 => ?_) (fun z4 => ?_)
    · replace h := h.1 z4
      refine ok_eqi (v4 + 1) (fun x5 ex5 => ?_)
      replace h := h x5 ex5
      refine ok_iinc 1 x5 dX10_put_86 rfl (by decide) ex5 (by decide) [some (.ref v0), some (.int v1), some (.int v2), some (.int v3), some (.int x5), some (.int x3)] rfl ?_
      refine ok_goto 46 dX10_put_89 (by decide) ?_
      refine ok_wk [some (.ref v0), some (.int v1), some (.int v2), some (.int v3), some (.int x5), none] ⟨rfl, rfl, rfl, rfl, rfl, trivial⟩ ?_
      exact h
    · replace h := h.2 z4
      refine ok_iload dX10_put_72 rfl ?_
      refine ok_bipush 32 dX10_put_74 (by decide) ?_
      refine ok_bipush 126 dX10_put_76 (by decide) ?_
      refine ok_cSi (rest := []) o_rc [.int x3, .int 32, .int 126] dX10_put_78 k10_89 rfl rfl (Nat.le_of_ble_eq_true rfl) h (fun x6 i6 h => ?_)
      refine ok_if_eq 86 dX10_put_81 (by decide) (fun z7 => ?_) (fun z7 => ?_)
      · replace h := h.1 z7
        refine ok_eqi (v4 + 1) (fun x8 ex8 => ?_)
        replace h := h x8 ex8
        refine ok_iinc 1 x8 dX10_put_86 rfl (by decide) ex8 (by decide) [some (.ref v0), some (.int v1), some (.int v2), some (.int v3), some (.int x8), some (.int x3)] rfl ?_
        refine ok_goto 46 dX10_put_89 (by decide) ?_
        refine ok_wk [some (.ref v0), some (.int v1), some (.int v2), some (.int v3), some (.int x8), none] ⟨rfl, rfl, rfl, rfl, rfl, trivial⟩ ?_
        exact h
      · replace h := h.2 z7
        refine ok_iconst 0 dX10_put_84 (by decide) ?_
        exact ok_iret .boolean dX10_put_85 rfl rfl h

set_option maxRecDepth 100000 in
set_option maxHeartbeats 4000000 in
theorem sX10_put_97 {G : o_G} {d : Nat} {P : o_P} {i : o_I} {r : o_R} (v0 : Nat) (v1 : Int32) (v2 : Int32) (v4 : Int32)
    (h : ((v4 < 0 → P (some (.int 1)) i r) ∧ (¬ v4 < 0 → o_O G v0 10 ∧ o_Y G (r v0 1) 1 ∧ vp_in v1 (o_len G (r v0 1)) ∧ o_Y G (r v0 0) 2 ∧ vp_in ((100 * v1) + (i (r v0 1) v1.toNatClampNeg)) (o_len G (r v0 0)) ∧ ∀ i7 : o_I, i7 = o_up i (r v0 0) ((100 * v1) + (i (r v0 1) v1.toNatClampNeg)).toNatClampNeg (vp_nar .char ((((v2 >>> ((8 * v4) &&& 31)) &&& 255) : Int32).toUInt32 % 65536).toInt32) → ∀ i8 : o_I, i8 = o_up i7 (r v0 1) v1.toNatClampNeg ((i7 (r v0 1) v1.toNatClampNeg) + 1) → ∀ x9 : Int32, x9 = v4 + (-1) → Ok G (d + 1) mX10_put P 97 [some (.ref v0), some (.int v1), some (.int v2), none, some (.int x9), none] [] i8 r))) :
    Ok G (d + 1) mX10_put P 97 [some (.ref v0), some (.int v1), some (.int v2), none, some (.int v4), none] [] i r := by
  refine ok_iload dX10_put_97 rfl ?_
  refine ok_if_lt 146 dX10_put_99 (by decide) (fun z1 => ?_) (fun z1 => ?_)
  · replace h := h.1 z1
    refine ok_iconst 1 dX10_put_146 (by decide) ?_
    exact ok_iret .boolean dX10_put_147 rfl rfl h
  · replace h := h.2 z1
    refine ok_aload_n 0 dX10_put_102 rfl rfl ?_
    obtain ⟨c2, h⟩ := h
    refine ok_getr 10 0 dX10_put_103 f10_7 rfl c2 ?_
    refine ok_bipush 100 dX10_put_106 (by decide) ?_
    refine ok_iload_n 1 dX10_put_108 rfl rfl ?_
    refine ok_imul dX10_put_109 ?_
    refine ok_aload_n 0 dX10_put_110 rfl rfl ?_
    refine ok_getr 10 1 dX10_put_111 f10_13 rfl c2 ?_
    refine ok_iload_n 1 dX10_put_114 rfl rfl ?_
    obtain ⟨c3, h⟩ := h
    obtain ⟨c4, h⟩ := h
    refine ok_iald dX10_put_115 c3 c4 ?_
    refine ok_iadd dX10_put_116 ?_
    refine ok_iload_n 2 dX10_put_117 rfl rfl ?_
    refine ok_bipush 8 dX10_put_118 (by decide) ?_
    refine ok_iload dX10_put_120 rfl ?_
    refine ok_imul dX10_put_122 ?_
    refine ok_ishr dX10_put_123 ?_
    refine ok_sipush 255 dX10_put_124 (by decide) ?_
    refine ok_iand dX10_put_127 ?_
    refine ok_i2c dX10_put_128 ?_
    obtain ⟨c5, h⟩ := h
    obtain ⟨c6, h⟩ := h
    refine ok_cast dX10_put_129 c5 c6 ?_
    refine ok_nmi (fun i7 ei7 => ?_)
    replace h := h i7 ei7
    refine ok_aload_n 0 dX10_put_130 rfl rfl ?_
    refine ok_getr 10 1 dX10_put_131 f10_13 rfl c2 ?_
    refine ok_iload_n 1 dX10_put_134 rfl rfl ?_
    refine ok_dup2 dX10_put_135 rfl rfl ?_
    refine ok_iald dX10_put_136 c3 c4 ?_
    refine ok_iconst 1 dX10_put_137 (by decide) ?_
    refine ok_iadd dX10_put_138 ?_
    refine ok_iast dX10_put_139 c3 c4 ?_
    refine ok_nmi (fun i8 ei8 => ?_)
    replace h := h i8 ei8
    refine ok_eqi (v4 + (-1)) (fun x9 ex9 => ?_)
    replace h := h x9 ex9
    refine ok_iinc (-1) x9 dX10_put_140 rfl (by decide) ex9 (by decide) [some (.ref v0), some (.int v1), some (.int v2), none, some (.int x9), none] rfl ?_
    refine ok_goto 97 dX10_put_143 (by decide) ?_
    exact h

set_option maxRecDepth 100000 in
set_option maxHeartbeats 4000000 in
theorem sX10_qualityAt_0 {G : o_G} {d : Nat} {P : o_P} {i : o_I} {r : o_R} (v0 : Nat) (v1 : Int32)
    (h : o_O G v0 10 ∧ (((i v0 28) = 0 → o_Y G (r v0 23) 1 ∧ vp_in v1 (o_len G (r v0 23)) ∧ True) ∧ (¬ (i v0 28) = 0 → o_Y G (r v0 27) 1 ∧ vp_in v1 (o_len G (r v0 27)) ∧ True)) ∧ (∀ x7 : Int32, x7 = (if (i v0 28) = 0 then (i (r v0 23) v1.toNatClampNeg) else (i (r v0 27) v1.toNatClampNeg)) → P (some (.int x7)) i r)) :
    Ok G (d + 1) mX10_qualityAt P 0 [some (.ref v0), some (.int v1)] [] i r := by
  refine ok_aload_n 0 dX10_qualityAt_0 rfl rfl ?_
  obtain ⟨c1, h⟩ := h
  refine ok_geti 10 28 dX10_qualityAt_1 f10_149 rfl c1 ?_
  obtain ⟨hs, h⟩ := h
  have k8 : ∀ x7 : Int32, x7 = (if (i v0 28) = 0 then (i (r v0 23) v1.toNatClampNeg) else (i (r v0 27) v1.toNatClampNeg)) → Ok G (d + 1) mX10_qualityAt P 22 [none, none] [.int x7] i r := by
    intro x7 ex7
    replace h := h x7 ex7
    exact ok_iret .int dX10_qualityAt_22 rfl rfl h
  clear h
  refine ok_if_eq 16 dX10_qualityAt_4 (by decide) (fun z2 => ?_) (fun z2 => ?_)
  · replace hs := hs.1 z2
    refine ok_aload_n 0 dX10_qualityAt_16 rfl rfl ?_
    refine ok_getr 10 23 dX10_qualityAt_17 f10_68 rfl c1 ?_
    refine ok_iload_n 1 dX10_qualityAt_20 rfl rfl ?_
    obtain ⟨c3, hs⟩  := hs
    obtain ⟨c4, hs⟩  := hs
    refine ok_iald dX10_qualityAt_21 c3 c4 ?_
    refine ok_wk [none, none] trivial ?_
    exact k8 ((i (r v0 23) v1.toNatClampNeg)) (by simp only [if_pos z2])
  · replace hs := hs.2 z2
    refine ok_aload_n 0 dX10_qualityAt_7 rfl rfl ?_
    refine ok_getr 10 27 dX10_qualityAt_8 f10_77 rfl c1 ?_
    refine ok_iload_n 1 dX10_qualityAt_11 rfl rfl ?_
    obtain ⟨c5, hs⟩  := hs
    obtain ⟨c6, hs⟩  := hs
    refine ok_iald dX10_qualityAt_12 c5 c6 ?_
    refine ok_goto 22 dX10_qualityAt_13 (by decide) ?_
    refine ok_wk [none, none] trivial ?_
    exact k8 ((i (r v0 27) v1.toNatClampNeg)) (by simp only [if_neg z2])

set_option maxRecDepth 100000 in
set_option maxHeartbeats 4000000 in
theorem sX10_reads_0 {G : o_G} {d : Nat} {P : o_P} {i : o_I} {r : o_R} (v0 : Nat)
    (h : o_O G v0 10 ∧ P (some (.int (i v0 6))) i r) :
    Ok G (d + 1) mX10_reads P 0 [some (.ref v0)] [] i r := by
  refine ok_aload_n 0 dX10_reads_0 rfl rfl ?_
  obtain ⟨c1, h⟩ := h
  refine ok_geti 10 6 dX10_reads_1 f10_123 rfl c1 ?_
  exact ok_iret .int dX10_reads_4 rfl rfl h


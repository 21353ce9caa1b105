set_option maxRecDepth 100000 in
set_option maxHeartbeats 4000000 in
theorem sX10_reported_0 {G : o_G} {d : Nat} {P : o_P} {i : o_I} {r : o_R} (v0 : Nat) (v1 : Int32) (v2 : Int32)
    (h : o_O G v0 10 ∧ (v1 = 0 ∨ v1 = 1) ∧ ∀ i2 : o_I, i2 = o_up i v0 28 v1 → ∀ i4 : o_I, i4 = o_up i2 v0 29 v2 → ∀ i5 : o_I, i5 = o_up i4 v0 30 0 → Ok G (d + 1) mX10_reported P 17 [some (.ref v0), some (.int v1), some (.int v2), some (.int 0)] [] i5 r) :
    Ok G (d + 1) mX10_reported P 0 [some (.ref v0), some (.int v1), some (.int v2), none] [] i r := by
  refine ok_aload_n 0 dX10_reported_0 rfl rfl ?_
  refine ok_iload_n 1 dX10_reported_1 rfl rfl ?_
  obtain ⟨c1, h⟩ := h
  obtain ⟨c3, h⟩ := h
  refine ok_puti 10 28 .boolean dX10_reported_2 f10_149 rfl rfl (by decide +kernel) (o_bool c3).1 (o_bool c3).2 c1 ?_
  refine ok_nmi (fun i2 ei2 => ?_)
  replace h := h i2 ei2
  refine ok_aload_n 0 dX10_reported_5 rfl rfl ?_
  refine ok_iload_n 2 dX10_reported_6 rfl rfl ?_
  refine ok_puti 10 29 .int dX10_reported_7 f10_173 rfl rfl (by decide +kernel) rfl rfl c1 ?_
  refine ok_nmi (fun i4 ei4 => ?_)
  replace h := h i4 ei4
  refine ok_aload_n 0 dX10_reported_10 rfl rfl ?_
  refine ok_iconst 0 dX10_reported_11 (by decide) ?_
  refine ok_puti 10 30 .int dX10_reported_12 f10_179 rfl rfl (by decide +kernel) rfl rfl c1 ?_
  refine ok_nmi (fun i5 ei5 => ?_)
  replace h := h i5 ei5
  refine ok_iconst 0 dX10_reported_15 (by decide) ?_
  refine ok_istore_n 3 dX10_reported_16 rfl (by decide) [some (.ref v0), some (.int v1), some (.int v2), some (.int 0)] rfl ?_
  exact h

set_option maxRecDepth 100000 in
set_option maxHeartbeats 4000000 in
theorem sX10_reported_17 {G : o_G} {d : Nat} {P : o_P} {i : o_I} {r : o_R} (v0 : Nat) (v1 : Int32) (v2 : Int32) (v3 : Int32)
    (h : ((104 ≤ v3 → Ok G (d + 1) mX10_reported P 38 [some (.ref v0), some (.int v1), some (.int v2), some (.int 0)] [] i r) ∧ (¬ 104 ≤ v3 → o_O G v0 10 ∧ o_Y G (r v0 33) 1 ∧ vp_in v3 (o_len G (r v0 33)) ∧ ∀ i5 : o_I, i5 = o_up i (r v0 33) v3.toNatClampNeg 0 → ∀ x6 : Int32, x6 = v3 + 1 → Ok G (d + 1) mX10_reported P 17 [some (.ref v0), some (.int v1), some (.int v2), some (.int x6)] [] i5 r))) :
    Ok G (d + 1) mX10_reported P 17 [some (.ref v0), some (.int v1), some (.int v2), some (.int v3)] [] i r := by
  refine ok_iload_n 3 dX10_reported_17 rfl rfl ?_
  refine ok_bipush 104 dX10_reported_18 (by decide) ?_
  refine ok_ic_ge 36 dX10_reported_20 (by decide) (fun z1 => ?_) (fun z1 => ?_)
  · replace h := h.1 z1
    refine ok_iconst 0 dX10_reported_36 (by decide) ?_
    refine ok_istore_n 3 dX10_reported_37 rfl (by decide) [some (.ref v0), some (.int v1), some (.int v2), some (.int 0)] rfl ?_
    exact h
  · replace h := h.2 z1
    refine ok_aload_n 0 dX10_reported_23 rfl rfl ?_
    obtain ⟨c2, h⟩ := h
    refine ok_getr 10 33 dX10_reported_24 f10_83 rfl c2 ?_
    refine ok_iload_n 3 dX10_reported_27 rfl rfl ?_
    refine ok_iconst 0 dX10_reported_28 (by decide) ?_
    obtain ⟨c3, h⟩ := h
    obtain ⟨c4, h⟩ := h
    refine ok_iast dX10_reported_29 c3 c4 ?_
    refine ok_nmi (fun i5 ei5 => ?_)
    replace h := h i5 ei5
    refine ok_eqi (v3 + 1) (fun x6 ex6 => ?_)
    replace h := h x6 ex6
    refine ok_iinc 1 x6 dX10_reported_30 rfl (by decide) ex6 (by decide) [some (.ref v0), some (.int v1), some (.int v2), some (.int x6)] rfl ?_
    refine ok_goto 17 dX10_reported_33 (by decide) ?_
    exact h

set_option maxRecDepth 100000 in
set_option maxHeartbeats 4000000 in
theorem sX10_reported_38 {G : o_G} {d : Nat} {P : o_P} {i : o_I} {r : o_R} (v0 : Nat) (v1 : Int32) (v2 : Int32) (v3 : Int32)
    (h : o_O G v0 10 ∧ SpI G d mX10_seenMany [.ref v0] (fun x2 i2 => ((x2 ≤ v3 → ((v1 = 0 → o_Y G (r v0 3) 1 ∧ vp_in v2 (o_len G (r v0 3)) ∧ True) ∧ (¬ v1 = 0 → True)) ∧ (∀ x7 : Int32, x7 = (if v1 = 0 then (i2 (r v0 3) v2.toNatClampNeg) else 0) → o_Y G (r v0 32) 1 ∧ vp_in 0 (o_len G (r v0 32)) ∧ ∀ i10 : o_I, i10 = o_up i2 (r v0 32) (0 : Int32).toNatClampNeg x7 → ∀ i11 : o_I, i11 = o_up i10 v0 31 1 → SpV G d mX10_addAllele [.ref v0] (fun i12 => SpV G d mX10_addAllele [.ref v0] (fun i13 => (∀ x16 : Int32, x16 = (if (i13 v0 31) = 1 then 1 else (if (i13 v0 31) = 2 then 3 else 6)) → ∀ i17 : o_I, i17 = o_up i13 v0 35 x16 → ∀ i18 : o_I, i18 = o_up i17 v0 36 0 → Ok G (d + 1) mX10_reported P 155 [some (.ref v0), none, none, some (.int 0)] [] i18 r)) i12 r) i11 r)) ∧ (¬ x2 ≤ v3 → SpI G d mX10_placeOf [.ref v0, .int v3] (fun x21 i21 => ((¬ x21 = v2 → ∀ x23 : Int32, x23 = v3 + 1 → Ok G (d + 1) mX10_reported P 38 [some (.ref v0), some (.int v1), some (.int v2), some (.int x23)] [] i21 r) ∧ (x21 = v2 → SpI G d mX10_codeAt [.ref v0, .int v3] (fun x24 i24 => o_Y G (r v0 33) 1 ∧ vp_in x24 (o_len G (r v0 33)) ∧ ∀ i27 : o_I, i27 = o_up i24 (r v0 33) x24.toNatClampNeg ((i24 (r v0 33) x24.toNatClampNeg) + 1) → ∀ i28 : o_I, i28 = o_up i27 v0 30 ((i27 v0 30) + 1) → ∀ x29 : Int32, x29 = v3 + 1 → Ok G (d + 1) mX10_reported P 38 [some (.ref v0), some (.int v1), some (.int v2), some (.int x29)] [] i28 r) i21 r))) i2 r))) i r) :
    Ok G (d + 1) mX10_reported P 38 [some (.ref v0), some (.int v1), some (.int v2), some (.int v3)] [] i r := by
  refine ok_iload_n 3 dX10_reported_38 rfl rfl ?_
  refine ok_aload_n 0 dX10_reported_39 rfl rfl ?_
  obtain ⟨c1, h⟩ := h
  refine ok_cVi (rest := [.int v3]) o_rc 10 [] dX10_reported_40 k10_163 c1 rfl rfl (Nat.le_of_ble_eq_true rfl) h (fun x2 i2 h => ?_)
  refine ok_ic_ge 85 dX10_reported_43 (by decide) (fun z3 => ?_) (fun z3 => ?_)
  · replace h := h.1 z3
    refine ok_aload_n 0 dX10_reported_85 rfl rfl ?_
    refine ok_getr 10 32 dX10_reported_86 f10_80 rfl c1 ?_
    refine ok_iconst 0 dX10_reported_89 (by decide) ?_
    refine ok_iload_n 1 dX10_reported_90 rfl rfl ?_
    obtain ⟨hs, h⟩ := h
    have k20 : ∀ x7 : Int32, x7 = (if v1 = 0 then (i2 (r v0 3) v2.toNatClampNeg) else 0) → Ok G (d + 1) mX10_reported P 104 [some (.ref v0), none, none, none] [.int x7, .int 0, .ref (r v0 32)] i2 r := by
      intro x7 ex7
      replace h := h x7 ex7
      obtain ⟨c8, h⟩ := h
      obtain ⟨c9, h⟩ := h
      refine ok_iast dX10_reported_104 c8 c9 ?_
      refine ok_nmi (fun i10 ei10 => ?_)
      replace h := h i10 ei10
      refine ok_aload_n 0 dX10_reported_105 rfl rfl ?_
      refine ok_iconst 1 dX10_reported_106 (by decide) ?_
      refine ok_puti 10 31 .int dX10_reported_107 f10_153 rfl rfl (by decide +kernel) rfl rfl c1 ?_
      refine ok_nmi (fun i11 ei11 => ?_)
      replace h := h i11 ei11
      refine ok_aload_n 0 dX10_reported_110 rfl rfl ?_
      refine ok_cVv (rest := []) o_rc 10 [] dX10_reported_111 k10_182 c1 rfl rfl (Nat.le_of_ble_eq_true rfl) h (fun i12 h => ?_)
      refine ok_aload_n 0 dX10_reported_114 rfl rfl ?_
      refine ok_cVv (rest := []) o_rc 10 [] dX10_reported_115 k10_182 c1 rfl rfl (Nat.le_of_ble_eq_true rfl) h (fun i13 h => ?_)
      refine ok_aload_n 0 dX10_reported_118 rfl rfl ?_
      refine ok_aload_n 0 dX10_reported_119 rfl rfl ?_
      refine ok_geti 10 31 dX10_reported_120 f10_153 rfl c1 ?_
      refine ok_iconst 1 dX10_reported_123 (by decide) ?_
      have k19 : ∀ x16 : Int32, x16 = (if (i13 v0 31) = 1 then 1 else (if (i13 v0 31) = 2 then 3 else 6)) → Ok G (d + 1) mX10_reported P 145 [some (.ref v0), none, none, none] [.int x16, .ref v0] i13 r := by
        intro x16 ex16
        replace h := h x16 ex16
        refine ok_puti 10 35 .int dX10_reported_145 f10_185 rfl rfl (by decide +kernel) rfl rfl c1 ?_
        refine ok_nmi (fun i17 ei17 => ?_)
        replace h := h i17 ei17
        refine ok_aload_n 0 dX10_reported_148 rfl rfl ?_
        refine ok_iconst 0 dX10_reported_149 (by decide) ?_
        refine ok_puti 10 36 .int dX10_reported_150 f10_188 rfl rfl (by decide +kernel) rfl rfl c1 ?_
        refine ok_nmi (fun i18 ei18 => ?_)
        replace h := h i18 ei18
        refine ok_iconst 0 dX10_reported_153 (by decide) ?_
        refine ok_istore_n 3 dX10_reported_154 rfl (by decide) [some (.ref v0), none, none, some (.int 0)] rfl ?_
        exact h
      clear h
      refine ok_ic_ne 131 dX10_reported_124 (by decide) (fun z14 => ?_) (fun z14 => ?_)
      · refine ok_aload_n 0 dX10_reported_131 rfl rfl ?_
        refine ok_geti 10 31 dX10_reported_132 f10_153 rfl c1 ?_
        refine ok_iconst 2 dX10_reported_135 (by decide) ?_
        refine ok_ic_ne 143 dX10_reported_136 (by decide) (fun z15 => ?_) (fun z15 => ?_)
        · refine ok_bipush 6 dX10_reported_143 (by decide) ?_
          exact k19 (6) (by simp only [if_neg z14, if_neg z15])
        · refine ok_iconst 3 dX10_reported_139 (by decide) ?_
          refine ok_goto 145 dX10_reported_140 (by decide) ?_
          exact k19 (3) (by simp only [if_neg z14, if_pos z15])
      · refine ok_iconst 1 dX10_reported_127 (by decide) ?_
        refine ok_goto 145 dX10_reported_128 (by decide) ?_
        exact k19 (1) (by simp only [if_pos z14])
    clear h
    refine ok_if_eq 98 dX10_reported_91 (by decide) (fun z4 => ?_) (fun z4 => ?_)
    · replace hs := hs.1 z4
      refine ok_aload_n 0 dX10_reported_98 rfl rfl ?_
      refine ok_getr 10 3 dX10_reported_99 f10_17 rfl c1 ?_
      refine ok_iload_n 2 dX10_reported_102 rfl rfl ?_
      obtain ⟨c5, hs⟩  := hs
      obtain ⟨c6, hs⟩  := hs
      refine ok_iald dX10_reported_103 c5 c6 ?_
      refine ok_wk [some (.ref v0), none, none, none] ⟨rfl, trivial⟩ ?_
      exact k20 ((i2 (r v0 3) v2.toNatClampNeg)) (by simp only [if_pos z4])
    · replace hs := hs.2 z4
      refine ok_iconst 0 dX10_reported_94 (by decide) ?_
      refine ok_goto 104 dX10_reported_95 (by decide) ?_
      refine ok_wk [some (.ref v0), none, none, none] ⟨rfl, trivial⟩ ?_
      exact k20 (0) (by simp only [if_neg z4])
  · replace h := h.2 z3
    refine ok_aload_n 0 dX10_reported_46 rfl rfl ?_
    refine ok_iload_n 3 dX10_reported_47 rfl rfl ?_
    refine ok_cVi (rest := []) o_rc 10 [.int v3] dX10_reported_48 k10_170 c1 rfl rfl (Nat.le_of_ble_eq_true rfl) h (fun x21 i21 h => ?_)
    refine ok_iload_n 2 dX10_reported_51 rfl rfl ?_
    refine ok_ic_ne 79 dX10_reported_52 (by decide) (fun z22 => ?_) (fun z22 => ?_)
    · replace h := h.1 z22
      refine ok_eqi (v3 + 1) (fun x23 ex23 => ?_)
      replace h := h x23 ex23
      refine ok_iinc 1 x23 dX10_reported_79 rfl (by decide) ex23 (by decide) [some (.ref v0), some (.int v1), some (.int v2), some (.int x23)] rfl ?_
      refine ok_goto 38 dX10_reported_82 (by decide) ?_
      exact h
    · replace h := h.2 z22
      refine ok_aload_n 0 dX10_reported_55 rfl rfl ?_
      refine ok_getr 10 33 dX10_reported_56 f10_83 rfl c1 ?_
      refine ok_aload_n 0 dX10_reported_59 rfl rfl ?_
      refine ok_iload_n 3 dX10_reported_60 rfl rfl ?_
      refine ok_cVi (rest := [.ref (r v0 33)]) o_rc 10 [.int v3] dX10_reported_61 k10_167 c1 rfl rfl (Nat.le_of_ble_eq_true rfl) h (fun x24 i24 h => ?_)
      refine ok_dup2 dX10_reported_64 rfl rfl ?_
      obtain ⟨c25, h⟩ := h
      obtain ⟨c26, h⟩ := h
      refine ok_iald dX10_reported_65 c25 c26 ?_
      refine ok_iconst 1 dX10_reported_66 (by decide) ?_
      refine ok_iadd dX10_reported_67 ?_
      refine ok_iast dX10_reported_68 c25 c26 ?_
      refine ok_nmi (fun i27 ei27 => ?_)
      replace h := h i27 ei27
      refine ok_aload_n 0 dX10_reported_69 rfl rfl ?_
      refine ok_dup dX10_reported_70 rfl ?_
      refine ok_geti 10 30 dX10_reported_71 f10_179 rfl c1 ?_
      refine ok_iconst 1 dX10_reported_74 (by decide) ?_
      refine ok_iadd dX10_reported_75 ?_
      refine ok_puti 10 30 .int dX10_reported_76 f10_179 rfl rfl (by decide +kernel) rfl rfl c1 ?_
      refine ok_nmi (fun i28 ei28 => ?_)
      replace h := h i28 ei28
      refine ok_eqi (v3 + 1) (fun x29 ex29 => ?_)
      replace h := h x29 ex29
      refine ok_iinc 1 x29 dX10_reported_79 rfl (by decide) ex29 (by decide) [some (.ref v0), some (.int v1), some (.int v2), some (.int x29)] rfl ?_
      refine ok_goto 38 dX10_reported_82 (by decide) ?_
      exact h

set_option maxRecDepth 100000 in
set_option maxHeartbeats 4000000 in
theorem sX10_reported_155 {G : o_G} {d : Nat} {P : o_P} {i : o_I} {r : o_R} (v0 : Nat) (v3 : Int32)
    (h : o_O G v0 10 ∧ (((i v0 35) ≤ v3 → (∀ x4 : Int32, x4 = (if (i v0 36) ≤ 0 then 0 else 1) → (x4 = 0 ∨ x4 = 1) ∧ P (some (.int x4)) i r)) ∧ (¬ (i v0 35) ≤ v3 → SpI G d mX10_penaltyOf [.ref v0, .int v3] (fun x7 i7 => o_Y G (r v0 34) 1 ∧ vp_in v3 (o_len G (r v0 34)) ∧ ∀ i10 : o_I, i10 = o_up i7 (r v0 34) v3.toNatClampNeg x7 → vp_in (i10 v0 36) (o_len G (r v0 34)) ∧ (∀ x13 : Int32, x13 = (if (i10 (r v0 34) (i10 v0 36).toNatClampNeg) ≤ (i10 (r v0 34) v3.toNatClampNeg) then (i10 v0 36) else v3) → ∀ i14 : o_I, i14 = o_up i10 v0 36 x13 → ∀ x15 : Int32, x15 = v3 + 1 → Ok G (d + 1) mX10_reported P 155 [some (.ref v0), none, none, some (.int x15)] [] i14 r)) i r))) :
    Ok G (d + 1) mX10_reported P 155 [some (.ref v0), none, none, some (.int v3)] [] i r := by
  refine ok_iload_n 3 dX10_reported_155 rfl rfl ?_
  refine ok_aload_n 0 dX10_reported_156 rfl rfl ?_
  obtain ⟨c1, h⟩ := h
  refine ok_geti 10 35 dX10_reported_157 f10_185 rfl c1 ?_
  refine ok_ic_ge 210 dX10_reported_160 (by decide) (fun z2 => ?_) (fun z2 => ?_)
  · replace h := h.1 z2
    refine ok_aload_n 0 dX10_reported_210 rfl rfl ?_
    refine ok_geti 10 36 dX10_reported_211 f10_188 rfl c1 ?_
    have k6 : ∀ x4 : Int32, x4 = (if (i v0 36) ≤ 0 then 0 else 1) → Ok G (d + 1) mX10_reported P 222 [none, none, none, none] [.int x4] i r := by
      intro x4 ex4
      replace h := h x4 ex4
      obtain ⟨c5, h⟩ := h
      exact ok_iret .boolean dX10_reported_222 rfl (o_bool c5).1 h
    clear h
    refine ok_if_le 221 dX10_reported_214 (by decide) (fun z3 => ?_) (fun z3 => ?_)
    · refine ok_iconst 0 dX10_reported_221 (by decide) ?_
      refine ok_wk [none, none, none, none] trivial ?_
      exact k6 (0) (by simp only [if_pos z3])
    · refine ok_iconst 1 dX10_reported_217 (by decide) ?_
      refine ok_goto 222 dX10_reported_218 (by decide) ?_
      refine ok_wk [none, none, none, none] trivial ?_
      exact k6 (1) (by simp only [if_neg z3])
  · replace h := h.2 z2
    refine ok_aload_n 0 dX10_reported_163 rfl rfl ?_
    refine ok_getr 10 34 dX10_reported_164 f10_86 rfl c1 ?_
    refine ok_iload_n 3 dX10_reported_167 rfl rfl ?_
    refine ok_aload_n 0 dX10_reported_168 rfl rfl ?_
    refine ok_iload_n 3 dX10_reported_169 rfl rfl ?_
    refine ok_cVi (rest := [.int v3, .ref (r v0 34)]) o_rc 10 [.int v3] dX10_reported_170 k10_191 c1 rfl rfl (Nat.le_of_ble_eq_true rfl) h (fun x7 i7 h => ?_)
    obtain ⟨c8, h⟩ := h
    obtain ⟨c9, h⟩ := h
    refine ok_iast dX10_reported_173 c8 c9 ?_
    refine ok_nmi (fun i10 ei10 => ?_)
    replace h := h i10 ei10
    refine ok_aload_n 0 dX10_reported_174 rfl rfl ?_
    refine ok_aload_n 0 dX10_reported_175 rfl rfl ?_
    refine ok_getr 10 34 dX10_reported_176 f10_86 rfl c1 ?_
    refine ok_iload_n 3 dX10_reported_179 rfl rfl ?_
    refine ok_iald dX10_reported_180 c8 c9 ?_
    refine ok_aload_n 0 dX10_reported_181 rfl rfl ?_
    refine ok_getr 10 34 dX10_reported_182 f10_86 rfl c1 ?_
    refine ok_aload_n 0 dX10_reported_185 rfl rfl ?_
    refine ok_geti 10 36 dX10_reported_186 f10_188 rfl c1 ?_
    obtain ⟨c11, h⟩ := h
    refine ok_iald dX10_reported_189 c8 c11 ?_
    have k16 : ∀ x13 : Int32, x13 = (if (i10 (r v0 34) (i10 v0 36).toNatClampNeg) ≤ (i10 (r v0 34) v3.toNatClampNeg) then (i10 v0 36) else v3) → Ok G (d + 1) mX10_reported P 201 [some (.ref v0), none, none, some (.int v3)] [.int x13, .ref v0] i10 r := by
      intro x13 ex13
      replace h := h x13 ex13
      refine ok_puti 10 36 .int dX10_reported_201 f10_188 rfl rfl (by decide +kernel) rfl rfl c1 ?_
      refine ok_nmi (fun i14 ei14 => ?_)
      replace h := h i14 ei14
      refine ok_eqi (v3 + 1) (fun x15 ex15 => ?_)
      replace h := h x15 ex15
      refine ok_iinc 1 x15 dX10_reported_204 rfl (by decide) ex15 (by decide) [some (.ref v0), none, none, some (.int x15)] rfl ?_
      refine ok_goto 155 dX10_reported_207 (by decide) ?_
      exact h
    clear h
    refine ok_ic_ge 197 dX10_reported_190 (by decide) (fun z12 => ?_) (fun z12 => ?_)
    · refine ok_aload_n 0 dX10_reported_197 rfl rfl ?_
      refine ok_geti 10 36 dX10_reported_198 f10_188 rfl c1 ?_
      exact k16 ((i10 v0 36)) (by simp only [if_pos z12])
    · refine ok_iload_n 3 dX10_reported_193 rfl rfl ?_
      refine ok_goto 201 dX10_reported_194 (by decide) ?_
      exact k16 (v3) (by simp only [if_neg z12])

set_option maxRecDepth 100000 in
set_option maxHeartbeats 4000000 in
theorem sX10_script_0 {G : o_G} {d : Nat} {P : o_P} {i : o_I} {r : o_R} (v0 : Nat) (v1 : Int32)
    (h : o_O G v0 10 ∧ o_Y G (r v0 14) 1 ∧ vp_in v1 (o_len G (r v0 14)) ∧ SpV G d mX10_turn [.ref v0, .int v1, .int (i (r v0 14) v1.toNatClampNeg)] (fun i4 => o_Y G (r v0 7) 1 ∧ vp_in v1 (o_len G (r v0 7)) ∧ o_Y G (r v0 11) 1 ∧ vp_in v1 (o_len G (r v0 11)) ∧ SpI G d mX10_measure [.ref v0, .int (i4 (r v0 7) v1.toNatClampNeg), .int (i4 (r v0 11) v1.toNatClampNeg)] (fun x9 i9 => ∀ x10 : Int32, x10 = (i9 (r v0 7) v1.toNatClampNeg) → o_Y G (r v0 12) 1 ∧ vp_in v1 (o_len G (r v0 12)) ∧ ∀ x13 : Int32, x13 = ((i9 (r v0 12) v1.toNatClampNeg) - (i9 (r v0 11) v1.toNatClampNeg)) → Ok G (d + 1) mX10_script P 52 [some (.ref v0), some (.int v1), some (.int x10), some (.int x13), some (.int 0), none, none, none] [] i9 r) i4 r) i r) :
    Ok G (d + 1) mX10_script P 0 [some (.ref v0), some (.int v1), none, none, none, none, none, none] [] i r := by
  refine ok_aload_n 0 dX10_script_0 rfl rfl ?_
  refine ok_iload_n 1 dX10_script_1 rfl rfl ?_
  refine ok_aload_n 0 dX10_script_2 rfl rfl ?_
  obtain ⟨c1, h⟩ := h
  refine ok_getr 10 14 dX10_script_3 f10_44 rfl c1 ?_
  refine ok_iload_n 1 dX10_script_6 rfl rfl ?_
  obtain ⟨c2, h⟩ := h
  obtain ⟨c3, h⟩ := h
  refine ok_iald dX10_script_7 c2 c3 ?_
  refine ok_cVv (rest := []) o_rc 10 [.int v1, .int (i (r v0 14) v1.toNatClampNeg)] dX10_script_8 k10_126 c1 rfl rfl (Nat.le_of_ble_eq_true rfl) h (fun i4 h => ?_)
  refine ok_aload_n 0 dX10_script_11 rfl rfl ?_
  refine ok_aload_n 0 dX10_script_12 rfl rfl ?_
  refine ok_getr 10 7 dX10_script_13 f10_23 rfl c1 ?_
  refine ok_iload_n 1 dX10_script_16 rfl rfl ?_
  obtain ⟨c5, h⟩ := h
  obtain ⟨c6, h⟩ := h
  refine ok_iald dX10_script_17 c5 c6 ?_
  refine ok_aload_n 0 dX10_script_18 rfl rfl ?_
  refine ok_getr 10 11 dX10_script_19 f10_35 rfl c1 ?_
  refine ok_iload_n 1 dX10_script_22 rfl rfl ?_
  obtain ⟨c7, h⟩ := h
  obtain ⟨c8, h⟩ := h
  refine ok_iald dX10_script_23 c7 c8 ?_
  refine ok_cVi (rest := []) o_rc 10 [.int (i4 (r v0 7) v1.toNatClampNeg), .int (i4 (r v0 11) v1.toNatClampNeg)] dX10_script_24 k10_130 c1 rfl rfl (Nat.le_of_ble_eq_true rfl) h (fun x9 i9 h => ?_)
  refine ok_pop dX10_script_27 rfl ?_
  refine ok_aload_n 0 dX10_script_28 rfl rfl ?_
  refine ok_getr 10 7 dX10_script_29 f10_23 rfl c1 ?_
  refine ok_iload_n 1 dX10_script_32 rfl rfl ?_
  refine ok_iald dX10_script_33 c5 c6 ?_
  refine ok_topi (fun x10 ex10 => ?_)
  replace h := h x10 ex10
  refine ok_istore_n 2 dX10_script_34 rfl (by decide) [some (.ref v0), some (.int v1), some (.int x10), none, none, none, none, none] rfl ?_
  refine ok_aload_n 0 dX10_script_35 rfl rfl ?_
  refine ok_getr 10 12 dX10_script_36 f10_38 rfl c1 ?_
  refine ok_iload_n 1 dX10_script_39 rfl rfl ?_
  obtain ⟨c11, h⟩ := h
  obtain ⟨c12, h⟩ := h
  refine ok_iald dX10_script_40 c11 c12 ?_
  refine ok_aload_n 0 dX10_script_41 rfl rfl ?_
  refine ok_getr 10 11 dX10_script_42 f10_35 rfl c1 ?_
  refine ok_iload_n 1 dX10_script_45 rfl rfl ?_
  refine ok_iald dX10_script_46 c7 c8 ?_
  refine ok_isub dX10_script_47 ?_
  refine ok_topi (fun x13 ex13 => ?_)
  replace h := h x13 ex13
  refine ok_istore_n 3 dX10_script_48 rfl (by decide) [some (.ref v0), some (.int v1), some (.int x10), some (.int x13), none, none, none, none] rfl ?_
  refine ok_iconst 0 dX10_script_49 (by decide) ?_
  refine ok_istore dX10_script_50 (by decide) [some (.ref v0), some (.int v1), some (.int x10), some (.int x13), some (.int 0), none, none, none] rfl ?_
  exact h

set_option maxRecDepth 100000 in
set_option maxHeartbeats 4000000 in
theorem sX10_script_52 {G : o_G} {d : Nat} {P : o_P} {i : o_I} {r : o_R} (v0 : Nat) (v1 : Int32) (v2 : Int32) (v3 : Int32) (v4 : Int32)
    (h : ((0 < v2 → Ok G (d + 1) mX10_script P 60 [some (.ref v0), some (.int v1), some (.int v2), some (.int v3), some (.int v4), none, none, none] [] i r) ∧ (¬ 0 < v2 → ((v3 ≤ 0 → o_O G v0 10 ∧ o_Y G (r v0 15) 1 ∧ vp_in v1 (o_len G (r v0 15)) ∧ ∀ i6 : o_I, i6 = o_up i (r v0 15) v1.toNatClampNeg v4 → Ok G (d + 1) mX10_script P 256 [some (.ref v0), some (.int v1), none, none, some (.int v4), some (.int 0), none, none] [] i6 r) ∧ (¬ v3 ≤ 0 → Ok G (d + 1) mX10_script P 60 [some (.ref v0), some (.int v1), some (.int v2), some (.int v3), some (.int v4), none, none, none] [] i r))))) :
    Ok G (d + 1) mX10_script P 52 [some (.ref v0), some (.int v1), some (.int v2), some (.int v3), some (.int v4), none, none, none] [] i r := by
  refine ok_iload_n 2 dX10_script_52 rfl rfl ?_
  refine ok_if_gt 60 dX10_script_53 (by decide) (fun z1 => ?_) (fun z1 => ?_)
  · replace h := h.1 z1
    exact h
  · replace h := h.2 z1
    refine ok_iload_n 3 dX10_script_56 rfl rfl ?_
    refine ok_if_le 245 dX10_script_57 (by decide) (fun z2 => ?_) (fun z2 => ?_)
    · replace h := h.1 z2
      refine ok_aload_n 0 dX10_script_245 rfl rfl ?_
      obtain ⟨c3, h⟩ := h
      refine ok_getr 10 15 dX10_script_246 f10_47 rfl c3 ?_
      refine ok_iload_n 1 dX10_script_249 rfl rfl ?_
      refine ok_iload dX10_script_250 rfl ?_
      obtain ⟨c4, h⟩ := h
      obtain ⟨c5, h⟩ := h
      refine ok_iast dX10_script_252 c4 c5 ?_
      refine ok_nmi (fun i6 ei6 => ?_)
      replace h := h i6 ei6
      refine ok_iconst 0 dX10_script_253 (by decide) ?_
      refine ok_istore dX10_script_254 (by decide) [some (.ref v0), some (.int v1), some (.int v2), some (.int v3), some (.int v4), some (.int 0), none, none] rfl ?_
      refine ok_wk [some (.ref v0), some (.int v1), none, none, some (.int v4), some (.int 0), none, none] ⟨rfl, rfl, rfl, rfl, trivial⟩ ?_
      exact h
    · replace h := h.2 z2
      exact h

set_option maxRecDepth 100000 in
set_option maxHeartbeats 4000000 in
theorem sX10_script_60 {G : o_G} {d : Nat} {P : o_P} {i : o_I} {r : o_R} (v0 : Nat) (v1 : Int32) (v2 : Int32) (v3 : Int32) (v4 : Int32)
    (h : o_O G v0 10 ∧ o_Y G (r v0 19) 1 ∧ vp_in ((20 * v2) + v3) (o_len G (r v0 19)) ∧ ∀ x4 : Int32, x4 = (i (r v0 19) ((20 * v2) + v3).toNatClampNeg) → ((v2 ≤ 0 → True) ∧ (¬ v2 ≤ 0 → ((v3 ≤ 0 → True) ∧ (¬ v3 ≤ 0 → vp_in ((((20 * v2) - 20) + v3) - 1) (o_len G (r v0 19)) ∧ o_Y G (r v0 17) 1 ∧ vp_in (v2 - 1) (o_len G (r v0 17)) ∧ o_Y G (r v0 11) 1 ∧ vp_in v1 (o_len G (r v0 11)) ∧ o_Y G (r v0 3) 1 ∧ vp_in (((i (r v0 11) v1.toNatClampNeg) + v3) - 1) (o_len G (r v0 3)) ∧ True)))) ∧ (∀ x17 : Int32, x17 = (if v2 ≤ 0 then 0 else (if v3 ≤ 0 then 0 else (if (i (r v0 17) (v2 - 1).toNatClampNeg) = (i (r v0 3) (((i (r v0 11) v1.toNatClampNeg) + v3) - 1).toNatClampNeg) then (if x4 = ((i (r v0 19) ((((20 * v2) - 20) + v3) - 1).toNatClampNeg) + 0) then 1 else 0) else (if x4 = ((i (r v0 19) ((((20 * v2) - 20) + v3) - 1).toNatClampNeg) + 1) then 1 else 0)))) → ((¬ x17 = 0 → True) ∧ (x17 = 0 → ((v3 ≤ 0 → True) ∧ (¬ v3 ≤ 0 → vp_in (((20 * v2) + v3) - 1) (o_len G (r v0 19)) ∧ True)))) ∧ (∀ x22 : Int32, x22 = (if x17 = 0 then (if v3 ≤ 0 then 0 else (if x4 = ((i (r v0 19) (((20 * v2) + v3) - 1).toNatClampNeg) + 1) then 1 else 0)) else 0) → (∀ x25 : Int32, x25 = (if x17 = 0 then (if x22 = 0 then 3 else 2) else 1) → o_Y G (r v0 16) 1 ∧ vp_in ((40 * v1) + v4) (o_len G (r v0 16)) ∧ ∀ i28 : o_I, i28 = o_up i (r v0 16) ((40 * v1) + v4).toNatClampNeg x25 → ∀ x29 : Int32, x29 = v4 + 1 → (∀ x31 : Int32, x31 = (if x22 = 0 then (v2 - 1) else v2) → (∀ x34 : Int32, x34 = (if x17 = 0 then (if x22 = 0 then v3 else (v3 - 1)) else (v3 - 1)) → Ok G (d + 1) mX10_script P 52 [some (.ref v0), some (.int v1), some (.int x31), some (.int x34), some (.int x29), none, none, none] [] i28 r)))))) :
    Ok G (d + 1) mX10_script P 60 [some (.ref v0), some (.int v1), some (.int v2), some (.int v3), some (.int v4), none, none, none] [] i r := by
  refine ok_aload_n 0 dX10_script_60 rfl rfl ?_
  obtain ⟨c1, h⟩ := h
  refine ok_getr 10 19 dX10_script_61 f10_59 rfl c1 ?_
  refine ok_bipush 20 dX10_script_64 (by decide) ?_
  refine ok_iload_n 2 dX10_script_66 rfl rfl ?_
  refine ok_imul dX10_script_67 ?_
  refine ok_iload_n 3 dX10_script_68 rfl rfl ?_
  refine ok_iadd dX10_script_69 ?_
  obtain ⟨c2, h⟩ := h
  obtain ⟨c3, h⟩ := h
  refine ok_iald dX10_script_70 c2 c3 ?_
  refine ok_topi (fun x4 ex4 => ?_)
  replace h := h x4 ex4
  refine ok_istore dX10_script_71 (by decide) [some (.ref v0), some (.int v1), some (.int v2), some (.int v3), some (.int v4), some (.int x4), none, none] rfl ?_
  refine ok_iload_n 2 dX10_script_73 rfl rfl ?_
  obtain ⟨hs, h⟩ := h
  have k39 : ∀ x17 : Int32, x17 = (if v2 ≤ 0 then 0 else (if v3 ≤ 0 then 0 else (if (i (r v0 17) (v2 - 1).toNatClampNeg) = (i (r v0 3) (((i (r v0 11) v1.toNatClampNeg) + v3) - 1).toNatClampNeg) then (if x4 = ((i (r v0 19) ((((20 * v2) - 20) + v3) - 1).toNatClampNeg) + 0) then 1 else 0) else (if x4 = ((i (r v0 19) ((((20 * v2) - 20) + v3) - 1).toNatClampNeg) + 1) then 1 else 0)))) → Ok G (d + 1) mX10_script P 139 [some (.ref v0), some (.int v1), some (.int v2), some (.int v3), some (.int v4), some (.int x4), none, none] [.int x17] i r := by
    intro x17 ex17
    replace h := h x17 ex17
    refine ok_istore dX10_script_139 (by decide) [some (.ref v0), some (.int v1), some (.int v2), some (.int v3), some (.int v4), some (.int x4), some (.int x17), none] rfl ?_
    refine ok_iload dX10_script_141 rfl ?_
    obtain ⟨hs, h⟩ := h
    have k38 : ∀ x22 : Int32, x22 = (if x17 = 0 then (if v3 ≤ 0 then 0 else (if x4 = ((i (r v0 19) (((20 * v2) + v3) - 1).toNatClampNeg) + 1) then 1 else 0)) else 0) → Ok G (d + 1) mX10_script P 175 [some (.ref v0), some (.int v1), some (.int v2), some (.int v3), some (.int v4), none, some (.int x17), none] [.int x22] i r := by
      intro x22 ex22
      replace h := h x22 ex22
      refine ok_istore dX10_script_175 (by decide) [some (.ref v0), some (.int v1), some (.int v2), some (.int v3), some (.int v4), none, some (.int x17), some (.int x22)] rfl ?_
      refine ok_aload_n 0 dX10_script_177 rfl rfl ?_
      refine ok_getr 10 16 dX10_script_178 f10_50 rfl c1 ?_
      refine ok_bipush 40 dX10_script_181 (by decide) ?_
      refine ok_iload_n 1 dX10_script_183 rfl rfl ?_
      refine ok_imul dX10_script_184 ?_
      refine ok_iload dX10_script_185 rfl ?_
      refine ok_iadd dX10_script_187 ?_
      refine ok_iload dX10_script_188 rfl ?_
      have k37 : ∀ x25 : Int32, x25 = (if x17 = 0 then (if x22 = 0 then 3 else 2) else 1) → Ok G (d + 1) mX10_script P 207 [some (.ref v0), some (.int v1), some (.int v2), some (.int v3), some (.int v4), none, some (.int x17), some (.int x22)] [.int x25, .int ((40 * v1) + v4), .ref (r v0 16)] i r := by
        intro x25 ex25
        replace h := h x25 ex25
        obtain ⟨c26, h⟩ := h
        obtain ⟨c27, h⟩ := h
        refine ok_iast dX10_script_207 c26 c27 ?_
        refine ok_nmi (fun i28 ei28 => ?_)
        replace h := h i28 ei28
        refine ok_eqi (v4 + 1) (fun x29 ex29 => ?_)
        replace h := h x29 ex29
        refine ok_iinc 1 x29 dX10_script_208 rfl (by decide) ex29 (by decide) [some (.ref v0), some (.int v1), some (.int v2), some (.int v3), some (.int x29), none, some (.int x17), some (.int x22)] rfl ?_
        refine ok_iload dX10_script_211 rfl ?_
        have k36 : ∀ x31 : Int32, x31 = (if x22 = 0 then (v2 - 1) else v2) → Ok G (d + 1) mX10_script P 223 [some (.ref v0), some (.int v1), none, some (.int v3), some (.int x29), none, some (.int x17), some (.int x22)] [.int x31] i28 r := by
          intro x31 ex31
          replace h := h x31 ex31
          refine ok_istore_n 2 dX10_script_223 rfl (by decide) [some (.ref v0), some (.int v1), some (.int x31), some (.int v3), some (.int x29), none, some (.int x17), some (.int x22)] rfl ?_
          refine ok_iload dX10_script_224 rfl ?_
          have k35 : ∀ x34 : Int32, x34 = (if x17 = 0 then (if x22 = 0 then v3 else (v3 - 1)) else (v3 - 1)) → Ok G (d + 1) mX10_script P 241 [some (.ref v0), some (.int v1), some (.int x31), none, some (.int x29), none, none, none] [.int x34] i28 r := by
            intro x34 ex34
            replace h := h x34 ex34
            refine ok_istore_n 3 dX10_script_241 rfl (by decide) [some (.ref v0), some (.int v1), some (.int x31), some (.int x34), some (.int x29), none, none, none] rfl ?_
            refine ok_goto 52 dX10_script_242 (by decide) ?_
            exact h
          clear h
          refine ok_if_ne 234 dX10_script_226 (by decide) (fun z32 => ?_) (fun z32 => ?_)
          · refine ok_iload_n 3 dX10_script_234 rfl rfl ?_
            refine ok_iconst 1 dX10_script_235 (by decide) ?_
            refine ok_isub dX10_script_236 ?_
            refine ok_goto 241 dX10_script_237 (by decide) ?_
            refine ok_wk [some (.ref v0), some (.int v1), some (.int x31), none, some (.int x29), none, none, none] ⟨rfl, rfl, rfl, rfl, trivial⟩ ?_
            exact k35 ((v3 - 1)) (by simp only [if_neg z32])
          · refine ok_iload dX10_script_229 rfl ?_
            refine ok_if_eq 240 dX10_script_231 (by decide) (fun z33 => ?_) (fun z33 => ?_)
            · refine ok_iload_n 3 dX10_script_240 rfl rfl ?_
              refine ok_wk [some (.ref v0), some (.int v1), some (.int x31), none, some (.int x29), none, none, none] ⟨rfl, rfl, rfl, rfl, trivial⟩ ?_
              exact k35 (v3) (by simp only [if_pos z32, if_pos z33])
            · refine ok_iload_n 3 dX10_script_234 rfl rfl ?_
              refine ok_iconst 1 dX10_script_235 (by decide) ?_
              refine ok_isub dX10_script_236 ?_
              refine ok_goto 241 dX10_script_237 (by decide) ?_
              refine ok_wk [some (.ref v0), some (.int v1), some (.int x31), none, some (.int x29), none, none, none] ⟨rfl, rfl, rfl, rfl, trivial⟩ ?_
              exact k35 ((v3 - 1)) (by simp only [if_pos z32, if_neg z33])
        clear h
        refine ok_if_eq 220 dX10_script_213 (by decide) (fun z30 => ?_) (fun z30 => ?_)
        · refine ok_iload_n 2 dX10_script_220 rfl rfl ?_
          refine ok_iconst 1 dX10_script_221 (by decide) ?_
          refine ok_isub dX10_script_222 ?_
          refine ok_wk [some (.ref v0), some (.int v1), none, some (.int v3), some (.int x29), none, some (.int x17), some (.int x22)] ⟨rfl, rfl, rfl, rfl, rfl, rfl, trivial⟩ ?_
          exact k36 ((v2 - 1)) (by simp only [if_pos z30])
        · refine ok_iload_n 2 dX10_script_216 rfl rfl ?_
          refine ok_goto 223 dX10_script_217 (by decide) ?_
          refine ok_wk [some (.ref v0), some (.int v1), none, some (.int v3), some (.int x29), none, some (.int x17), some (.int x22)] ⟨rfl, rfl, rfl, rfl, rfl, rfl, trivial⟩ ?_
          exact k36 (v2) (by simp only [if_neg z30])
      clear h
      refine ok_if_eq 197 dX10_script_190 (by decide) (fun z23 => ?_) (fun z23 => ?_)
      · refine ok_iload dX10_script_197 rfl ?_
        refine ok_if_eq 206 dX10_script_199 (by decide) (fun z24 => ?_) (fun z24 => ?_)
        · refine ok_iconst 3 dX10_script_206 (by decide) ?_
          exact k37 (3) (by simp only [if_pos z23, if_pos z24])
        · refine ok_iconst 2 dX10_script_202 (by decide) ?_
          refine ok_goto 207 dX10_script_203 (by decide) ?_
          exact k37 (2) (by simp only [if_pos z23, if_neg z24])
      · refine ok_iconst 1 dX10_script_193 (by decide) ?_
        refine ok_goto 207 dX10_script_194 (by decide) ?_
        exact k37 (1) (by simp only [if_neg z23])
    clear h
    refine ok_if_ne 174 dX10_script_143 (by decide) (fun z18 => ?_) (fun z18 => ?_)
    · replace hs := hs.1 z18
      refine ok_iconst 0 dX10_script_174 (by decide) ?_
      refine ok_wk [some (.ref v0), some (.int v1), some (.int v2), some (.int v3), some (.int v4), none, some (.int x17), none] ⟨rfl, rfl, rfl, rfl, rfl, rfl, trivial⟩ ?_
      exact k38 (0) (by simp only [if_neg z18])
    · replace hs := hs.2 z18
      refine ok_iload_n 3 dX10_script_146 rfl rfl ?_
      refine ok_if_le 174 dX10_script_147 (by decide) (fun z19 => ?_) (fun z19 => ?_)
      · replace hs := hs.1 z19
        refine ok_iconst 0 dX10_script_174 (by decide) ?_
        refine ok_wk [some (.ref v0), some (.int v1), some (.int v2), some (.int v3), some (.int v4), none, some (.int x17), none] ⟨rfl, rfl, rfl, rfl, rfl, rfl, trivial⟩ ?_
        exact k38 (0) (by simp only [if_pos z18, if_pos z19])
      · replace hs := hs.2 z19
        refine ok_iload dX10_script_150 rfl ?_
        refine ok_aload_n 0 dX10_script_152 rfl rfl ?_
        refine ok_getr 10 19 dX10_script_153 f10_59 rfl c1 ?_
        refine ok_bipush 20 dX10_script_156 (by decide) ?_
        refine ok_iload_n 2 dX10_script_158 rfl rfl ?_
        refine ok_imul dX10_script_159 ?_
        refine ok_iload_n 3 dX10_script_160 rfl rfl ?_
        refine ok_iadd dX10_script_161 ?_
        refine ok_iconst 1 dX10_script_162 (by decide) ?_
        refine ok_isub dX10_script_163 ?_
        obtain ⟨c20, hs⟩  := hs
        refine ok_iald dX10_script_164 c2 c20 ?_
        refine ok_iconst 1 dX10_script_165 (by decide) ?_
        refine ok_iadd dX10_script_166 ?_
        refine ok_ic_ne 174 dX10_script_167 (by decide) (fun z21 => ?_) (fun z21 => ?_)
        · refine ok_iconst 0 dX10_script_174 (by decide) ?_
          refine ok_wk [some (.ref v0), some (.int v1), some (.int v2), some (.int v3), some (.int v4), none, some (.int x17), none] ⟨rfl, rfl, rfl, rfl, rfl, rfl, trivial⟩ ?_
          exact k38 (0) (by simp only [if_pos z18, if_neg z19, if_neg z21])
        · refine ok_iconst 1 dX10_script_170 (by decide) ?_
          refine ok_goto 175 dX10_script_171 (by decide) ?_
          refine ok_wk [some (.ref v0), some (.int v1), some (.int v2), some (.int v3), some (.int v4), none, some (.int x17), none] ⟨rfl, rfl, rfl, rfl, rfl, rfl, trivial⟩ ?_
          exact k38 (1) (by simp only [if_pos z18, if_neg z19, if_pos z21])
  clear h
  refine ok_if_le 138 dX10_script_74 (by decide) (fun z5 => ?_) (fun z5 => ?_)
  · replace hs := hs.1 z5
    refine ok_iconst 0 dX10_script_138 (by decide) ?_
    exact k39 (0) (by simp only [if_pos z5])
  · replace hs := hs.2 z5
    refine ok_iload_n 3 dX10_script_77 rfl rfl ?_
    refine ok_if_le 138 dX10_script_78 (by decide) (fun z6 => ?_) (fun z6 => ?_)
    · replace hs := hs.1 z6
      refine ok_iconst 0 dX10_script_138 (by decide) ?_
      exact k39 (0) (by simp only [if_neg z5, if_pos z6])
    · replace hs := hs.2 z6
      refine ok_iload dX10_script_81 rfl ?_
      refine ok_aload_n 0 dX10_script_83 rfl rfl ?_
      refine ok_getr 10 19 dX10_script_84 f10_59 rfl c1 ?_
      refine ok_bipush 20 dX10_script_87 (by decide) ?_
      refine ok_iload_n 2 dX10_script_89 rfl rfl ?_
      refine ok_imul dX10_script_90 ?_
      refine ok_bipush 20 dX10_script_91 (by decide) ?_
      refine ok_isub dX10_script_93 ?_
      refine ok_iload_n 3 dX10_script_94 rfl rfl ?_
      refine ok_iadd dX10_script_95 ?_
      refine ok_iconst 1 dX10_script_96 (by decide) ?_
      refine ok_isub dX10_script_97 ?_
      obtain ⟨c7, hs⟩  := hs
      refine ok_iald dX10_script_98 c2 c7 ?_
      refine ok_aload_n 0 dX10_script_99 rfl rfl ?_
      refine ok_getr 10 17 dX10_script_100 f10_53 rfl c1 ?_
      refine ok_iload_n 2 dX10_script_103 rfl rfl ?_
      refine ok_iconst 1 dX10_script_104 (by decide) ?_
      refine ok_isub dX10_script_105 ?_
      obtain ⟨c8, hs⟩  := hs
      obtain ⟨c9, hs⟩  := hs
      refine ok_iald dX10_script_106 c8 c9 ?_
      refine ok_aload_n 0 dX10_script_107 rfl rfl ?_
      refine ok_getr 10 3 dX10_script_108 f10_17 rfl c1 ?_
      refine ok_aload_n 0 dX10_script_111 rfl rfl ?_
      refine ok_getr 10 11 dX10_script_112 f10_35 rfl c1 ?_
      refine ok_iload_n 1 dX10_script_115 rfl rfl ?_
      obtain ⟨c10, hs⟩  := hs
      obtain ⟨c11, hs⟩  := hs
      refine ok_iald dX10_script_116 c10 c11 ?_
      refine ok_iload_n 3 dX10_script_117 rfl rfl ?_
      refine ok_iadd dX10_script_118 ?_
      refine ok_iconst 1 dX10_script_119 (by decide) ?_
      refine ok_isub dX10_script_120 ?_
      obtain ⟨c12, hs⟩  := hs
      obtain ⟨c13, hs⟩  := hs
      refine ok_iald dX10_script_121 c12 c13 ?_
      refine ok_ic_ne 129 dX10_script_122 (by decide) (fun z14 => ?_) (fun z14 => ?_)
      · refine ok_iconst 1 dX10_script_129 (by decide) ?_
        refine ok_iadd dX10_script_130 ?_
        refine ok_ic_ne 138 dX10_script_131 (by decide) (fun z15 => ?_) (fun z15 => ?_)
        · refine ok_iconst 0 dX10_script_138 (by decide) ?_
          exact k39 (0) (by simp only [if_neg z5, if_neg z6, if_neg z14, if_neg z15])
        · refine ok_iconst 1 dX10_script_134 (by decide) ?_
          refine ok_goto 139 dX10_script_135 (by decide) ?_
          exact k39 (1) (by simp only [if_neg z5, if_neg z6, if_neg z14, if_pos z15])
      · refine ok_iconst 0 dX10_script_125 (by decide) ?_
        refine ok_goto 130 dX10_script_126 (by decide) ?_
        refine ok_iadd dX10_script_130 ?_
        refine ok_ic_ne 138 dX10_script_131 (by decide) (fun z16 => ?_) (fun z16 => ?_)
        · refine ok_iconst 0 dX10_script_138 (by decide) ?_
          exact k39 (0) (by simp only [if_neg z5, if_neg z6, if_pos z14, if_neg z16])
        · refine ok_iconst 1 dX10_script_134 (by decide) ?_
          refine ok_goto 139 dX10_script_135 (by decide) ?_
          exact k39 (1) (by simp only [if_neg z5, if_neg z6, if_pos z14, if_pos z16])

set_option maxRecDepth 100000 in
set_option maxHeartbeats 4000000 in
theorem sX10_script_256 {G : o_G} {d : Nat} {P : o_P} {i : o_I} {r : o_R} (v0 : Nat) (v1 : Int32) (v4 : Int32) (v5 : Int32)
    (h : (((v4 / 2) ≤ v5 → P none i r) ∧ (¬ (v4 / 2) ≤ v5 → o_O G v0 10 ∧ o_Y G (r v0 16) 1 ∧ vp_in ((40 * v1) + v5) (o_len G (r v0 16)) ∧ ∀ x5 : Int32, x5 = (i (r v0 16) ((40 * v1) + v5).toNatClampNeg) → vp_in ((((40 * v1) + v4) - 1) - v5) (o_len G (r v0 16)) ∧ ∀ i7 : o_I, i7 = o_up i (r v0 16) ((40 * v1) + v5).toNatClampNeg (i (r v0 16) ((((40 * v1) + v4) - 1) - v5).toNatClampNeg) → ∀ i8 : o_I, i8 = o_up i7 (r v0 16) ((((40 * v1) + v4) - 1) - v5).toNatClampNeg x5 → ∀ x9 : Int32, x9 = v5 + 1 → Ok G (d + 1) mX10_script P 256 [some (.ref v0), some (.int v1), none, none, some (.int v4), some (.int x9), none, none] [] i8 r))) :
    Ok G (d + 1) mX10_script P 256 [some (.ref v0), some (.int v1), none, none, some (.int v4), some (.int v5), none, none] [] i r := by
  refine ok_iload dX10_script_256 rfl ?_
  refine ok_iload dX10_script_258 rfl ?_
  refine ok_iconst 2 dX10_script_260 (by decide) ?_
  refine ok_idiv dX10_script_261 (by decide) ?_
  refine ok_ic_ge 333 dX10_script_262 (by decide) (fun z1 => ?_) (fun z1 => ?_)
  · replace h := h.1 z1
    exact ok_vret dX10_script_333 rfl h
  · replace h := h.2 z1
    refine ok_aload_n 0 dX10_script_265 rfl rfl ?_
    obtain ⟨c2, h⟩ := h
    refine ok_getr 10 16 dX10_script_266 f10_50 rfl c2 ?_
    refine ok_bipush 40 dX10_script_269 (by decide) ?_
    refine ok_iload_n 1 dX10_script_271 rfl rfl ?_
    refine ok_imul dX10_script_272 ?_
    refine ok_iload dX10_script_273 rfl ?_
    refine ok_iadd dX10_script_275 ?_
    obtain ⟨c3, h⟩ := h
    obtain ⟨c4, h⟩ := h
    refine ok_iald dX10_script_276 c3 c4 ?_
    refine ok_topi (fun x5 ex5 => ?_)
    replace h := h x5 ex5
    refine ok_istore dX10_script_277 (by decide) [some (.ref v0), some (.int v1), none, none, some (.int v4), some (.int v5), some (.int x5), none] rfl ?_
    refine ok_aload_n 0 dX10_script_279 rfl rfl ?_
    refine ok_getr 10 16 dX10_script_280 f10_50 rfl c2 ?_
    refine ok_bipush 40 dX10_script_283 (by decide) ?_
    refine ok_iload_n 1 dX10_script_285 rfl rfl ?_
    refine ok_imul dX10_script_286 ?_
    refine ok_iload dX10_script_287 rfl ?_
    refine ok_iadd dX10_script_289 ?_
    refine ok_aload_n 0 dX10_script_290 rfl rfl ?_
    refine ok_getr 10 16 dX10_script_291 f10_50 rfl c2 ?_
    refine ok_bipush 40 dX10_script_294 (by decide) ?_
    refine ok_iload_n 1 dX10_script_296 rfl rfl ?_
    refine ok_imul dX10_script_297 ?_
    refine ok_iload dX10_script_298 rfl ?_
    refine ok_iadd dX10_script_300 ?_
    refine ok_iconst 1 dX10_script_301 (by decide) ?_
    refine ok_isub dX10_script_302 ?_
    refine ok_iload dX10_script_303 rfl ?_
    refine ok_isub dX10_script_305 ?_
    obtain ⟨c6, h⟩ := h
    refine ok_iald dX10_script_306 c3 c6 ?_
    refine ok_iast dX10_script_307 c3 c4 ?_
    refine ok_nmi (fun i7 ei7 => ?_)
    replace h := h i7 ei7
    refine ok_aload_n 0 dX10_script_308 rfl rfl ?_
    refine ok_getr 10 16 dX10_script_309 f10_50 rfl c2 ?_
    refine ok_bipush 40 dX10_script_312 (by decide) ?_
    refine ok_iload_n 1 dX10_script_314 rfl rfl ?_
    refine ok_imul dX10_script_315 ?_
    refine ok_iload dX10_script_316 rfl ?_
    refine ok_iadd dX10_script_318 ?_
    refine ok_iconst 1 dX10_script_319 (by decide) ?_
    refine ok_isub dX10_script_320 ?_
    refine ok_iload dX10_script_321 rfl ?_
    refine ok_isub dX10_script_323 ?_
    refine ok_iload dX10_script_324 rfl ?_
    refine ok_iast dX10_script_326 c3 c6 ?_
    refine ok_nmi (fun i8 ei8 => ?_)
    replace h := h i8 ei8
    refine ok_eqi (v5 + 1) (fun x9 ex9 => ?_)
    replace h := h x9 ex9
    refine ok_iinc 1 x9 dX10_script_327 rfl (by decide) ex9 (by decide) [some (.ref v0), some (.int v1), none, none, some (.int v4), some (.int x9), some (.int x5), none] rfl ?_
    refine ok_goto 256 dX10_script_330 (by decide) ?_
    refine ok_wk [some (.ref v0), some (.int v1), none, none, some (.int v4), some (.int x9), none, none] ⟨rfl, rfl, rfl, rfl, trivial⟩ ?_
    exact h

set_option maxRecDepth 100000 in
set_option maxHeartbeats 4000000 in
theorem sX10_secondOf_0 {G : o_G} {d : Nat} {P : o_P} {i : o_I} {r : o_R} (v0 : Int32)
    (h : (∀ x3 : Int32, x3 = (if v0 = 0 then 0 else (if 3 ≤ v0 then 2 else 1)) → P (some (.int x3)) i r)) :
    Ok G (d + 1) mX10_secondOf P 0 [some (.int v0)] [] i r := by
  refine ok_iload_n 0 dX10_secondOf_0 rfl rfl ?_
  have k4 : ∀ x3 : Int32, x3 = (if v0 = 0 then 0 else (if 3 ≤ v0 then 2 else 1)) → Ok G (d + 1) mX10_secondOf P 18 [none] [.int x3] i r := by
    intro x3 ex3
    replace h := h x3 ex3
    exact ok_iret .int dX10_secondOf_18 rfl rfl h
  clear h
  refine ok_if_ne 8 dX10_secondOf_1 (by decide) (fun z1 => ?_) (fun z1 => ?_)
  · refine ok_iload_n 0 dX10_secondOf_8 rfl rfl ?_
    refine ok_iconst 3 dX10_secondOf_9 (by decide) ?_
    refine ok_ic_ge 17 dX10_secondOf_10 (by decide) (fun z2 => ?_) (fun z2 => ?_)
    · refine ok_iconst 2 dX10_secondOf_17 (by decide) ?_
      refine ok_wk [none] trivial ?_
      exact k4 (2) (by simp only [if_neg z1, if_pos z2])
    · refine ok_iconst 1 dX10_secondOf_13 (by decide) ?_
      refine ok_goto 18 dX10_secondOf_14 (by decide) ?_
      refine ok_wk [none] trivial ?_
      exact k4 (1) (by simp only [if_neg z1, if_neg z2])
  · refine ok_iconst 0 dX10_secondOf_4 (by decide) ?_
    refine ok_goto 18 dX10_secondOf_5 (by decide) ?_
    refine ok_wk [none] trivial ?_
    exact k4 (0) (by simp only [if_pos z1])

set_option maxRecDepth 100000 in
set_option maxHeartbeats 4000000 in
theorem sX10_seeBase_0 {G : o_G} {d : Nat} {P : o_P} {i : o_I} {r : o_R} (v0 : Nat) (v1 : Int32) (v2 : Int32) (v3 : Int32)
    (h : o_O G v0 10 ∧ o_Y G (r v0 21) 1 ∧ vp_in (i v0 20) (o_len G (r v0 21)) ∧ ∀ i4 : o_I, i4 = o_up i (r v0 21) (i v0 20).toNatClampNeg v1 → o_Y G (r v0 22) 1 ∧ vp_in (i4 v0 20) (o_len G (r v0 22)) ∧ ∀ i7 : o_I, i7 = o_up i4 (r v0 22) (i4 v0 20).toNatClampNeg v2 → o_Y G (r v0 23) 1 ∧ vp_in (i7 v0 20) (o_len G (r v0 23)) ∧ ∀ i10 : o_I, i10 = o_up i7 (r v0 23) (i7 v0 20).toNatClampNeg v3 → ∀ i11 : o_I, i11 = o_up i10 v0 20 ((i10 v0 20) + 1) → P none i11 r) :
    Ok G (d + 1) mX10_seeBase P 0 [some (.ref v0), some (.int v1), some (.int v2), some (.int v3)] [] i r := by
  refine ok_aload_n 0 dX10_seeBase_0 rfl rfl ?_
  obtain ⟨c1, h⟩ := h
  refine ok_getr 10 21 dX10_seeBase_1 f10_62 rfl c1 ?_
  refine ok_aload_n 0 dX10_seeBase_4 rfl rfl ?_
  refine ok_geti 10 20 dX10_seeBase_5 f10_146 rfl c1 ?_
  refine ok_iload_n 1 dX10_seeBase_8 rfl rfl ?_
  obtain ⟨c2, h⟩ := h
  obtain ⟨c3, h⟩ := h
  refine ok_iast dX10_seeBase_9 c2 c3 ?_
  refine ok_nmi (fun i4 ei4 => ?_)
  replace h := h i4 ei4
  refine ok_aload_n 0 dX10_seeBase_10 rfl rfl ?_
  refine ok_getr 10 22 dX10_seeBase_11 f10_65 rfl c1 ?_
  refine ok_aload_n 0 dX10_seeBase_14 rfl rfl ?_
  refine ok_geti 10 20 dX10_seeBase_15 f10_146 rfl c1 ?_
  refine ok_iload_n 2 dX10_seeBase_18 rfl rfl ?_
  obtain ⟨c5, h⟩ := h
  obtain ⟨c6, h⟩ := h
  refine ok_iast dX10_seeBase_19 c5 c6 ?_
  refine ok_nmi (fun i7 ei7 => ?_)
  replace h := h i7 ei7
  refine ok_aload_n 0 dX10_seeBase_20 rfl rfl ?_
  refine ok_getr 10 23 dX10_seeBase_21 f10_68 rfl c1 ?_
  refine ok_aload_n 0 dX10_seeBase_24 rfl rfl ?_
  refine ok_geti 10 20 dX10_seeBase_25 f10_146 rfl c1 ?_
  refine ok_iload_n 3 dX10_seeBase_28 rfl rfl ?_
  obtain ⟨c8, h⟩ := h
  obtain ⟨c9, h⟩ := h
  refine ok_iast dX10_seeBase_29 c8 c9 ?_
  refine ok_nmi (fun i10 ei10 => ?_)
  replace h := h i10 ei10
  refine ok_aload_n 0 dX10_seeBase_30 rfl rfl ?_
  refine ok_dup dX10_seeBase_31 rfl ?_
  refine ok_geti 10 20 dX10_seeBase_32 f10_146 rfl c1 ?_
  refine ok_iconst 1 dX10_seeBase_35 (by decide) ?_
  refine ok_iadd dX10_seeBase_36 ?_
  refine ok_puti 10 20 .int dX10_seeBase_37 f10_146 rfl rfl (by decide +kernel) rfl rfl c1 ?_
  refine ok_nmi (fun i11 ei11 => ?_)
  replace h := h i11 ei11
  exact ok_vret dX10_seeBase_40 rfl h

set_option maxRecDepth 100000 in
set_option maxHeartbeats 4000000 in
theorem sX10_seen_0 {G : o_G} {d : Nat} {P : o_P} {i : o_I} {r : o_R} (v0 : Nat) (v1 : Int32) (v2 : Int32)
    (h : Ok G (d + 1) mX10_seen P 5 [some (.ref v0), some (.int v1), some (.int v2), some (.int 0), some (.int 0)] [] i r) :
    Ok G (d + 1) mX10_seen P 0 [some (.ref v0), some (.int v1), some (.int v2), none, none] [] i r := by
  refine ok_iconst 0 dX10_seen_0 (by decide) ?_
  refine ok_istore_n 3 dX10_seen_1 rfl (by decide) [some (.ref v0), some (.int v1), some (.int v2), some (.int 0), none] rfl ?_
  refine ok_iconst 0 dX10_seen_2 (by decide) ?_
  refine ok_istore dX10_seen_3 (by decide) [some (.ref v0), some (.int v1), some (.int v2), some (.int 0), some (.int 0)] rfl ?_
  exact h

set_option maxRecDepth 100000 in
set_option maxHeartbeats 4000000 in
theorem sX10_seen_5 {G : o_G} {d : Nat} {P : o_P} {i : o_I} {r : o_R} (v0 : Nat) (v1 : Int32) (v2 : Int32) (v3 : Int32) (v4 : Int32)
    (h : o_O G v0 10 ∧ (((i v0 20) ≤ v4 → P (some (.int v3)) i r) ∧ (¬ (i v0 20) ≤ v4 → o_Y G (r v0 21) 1 ∧ vp_in v4 (o_len G (r v0 21)) ∧ ((¬ (i (r v0 21) v4.toNatClampNeg) = v1 → True) ∧ ((i (r v0 21) v4.toNatClampNeg) = v1 → o_Y G (r v0 22) 1 ∧ vp_in v4 (o_len G (r v0 22)) ∧ True)) ∧ (∀ x9 : Int32, x9 = (if (i (r v0 21) v4.toNatClampNeg) = v1 then (if (i (r v0 22) v4.toNatClampNeg) = v2 then 1 else 0) else 0) → ∀ x10 : Int32, x10 = (v3 + x9) → ∀ x11 : Int32, x11 = v4 + 1 → Ok G (d + 1) mX10_seen P 5 [some (.ref v0), some (.int v1), some (.int v2), some (.int x10), some (.int x11)] [] i r)))) :
    Ok G (d + 1) mX10_seen P 5 [some (.ref v0), some (.int v1), some (.int v2), some (.int v3), some (.int v4)] [] i r := by
  refine ok_iload dX10_seen_5 rfl ?_
  refine ok_aload_n 0 dX10_seen_7 rfl rfl ?_
  obtain ⟨c1, h⟩ := h
  refine ok_geti 10 20 dX10_seen_8 f10_146 rfl c1 ?_
  refine ok_ic_ge 50 dX10_seen_11 (by decide) (fun z2 => ?_) (fun z2 => ?_)
  · replace h := h.1 z2
    refine ok_iload_n 3 dX10_seen_50 rfl rfl ?_
    exact ok_iret .int dX10_seen_51 rfl rfl h
  · replace h := h.2 z2
    refine ok_iload_n 3 dX10_seen_14 rfl rfl ?_
    refine ok_aload_n 0 dX10_seen_15 rfl rfl ?_
    refine ok_getr 10 21 dX10_seen_16 f10_62 rfl c1 ?_
    refine ok_iload dX10_seen_19 rfl ?_
    obtain ⟨c3, h⟩ := h
    obtain ⟨c4, h⟩ := h
    refine ok_iald dX10_seen_21 c3 c4 ?_
    refine ok_iload_n 1 dX10_seen_22 rfl rfl ?_
    obtain ⟨hs, h⟩ := h
    have k12 : ∀ x9 : Int32, x9 = (if (i (r v0 21) v4.toNatClampNeg) = v1 then (if (i (r v0 22) v4.toNatClampNeg) = v2 then 1 else 0) else 0) → Ok G (d + 1) mX10_seen P 42 [some (.ref v0), some (.int v1), some (.int v2), none, some (.int v4)] [.int x9, .int v3] i r := by
      intro x9 ex9
      replace h := h x9 ex9
      refine ok_iadd dX10_seen_42 ?_
      refine ok_topi (fun x10 ex10 => ?_)
      replace h := h x10 ex10
      refine ok_istore_n 3 dX10_seen_43 rfl (by decide) [some (.ref v0), some (.int v1), some (.int v2), some (.int x10), some (.int v4)] rfl ?_
      refine ok_eqi (v4 + 1) (fun x11 ex11 => ?_)
      replace h := h x11 ex11
      refine ok_iinc 1 x11 dX10_seen_44 rfl (by decide) ex11 (by decide) [some (.ref v0), some (.int v1), some (.int v2), some (.int x10), some (.int x11)] rfl ?_
      refine ok_goto 5 dX10_seen_47 (by decide) ?_
      exact h
    clear h
    refine ok_ic_ne 41 dX10_seen_23 (by decide) (fun z5 => ?_) (fun z5 => ?_)
    · replace hs := hs.1 z5
      refine ok_iconst 0 dX10_seen_41 (by decide) ?_
      refine ok_wk [some (.ref v0), some (.int v1), some (.int v2), none, some (.int v4)] ⟨rfl, rfl, rfl, rfl, trivial⟩ ?_
      exact k12 (0) (by simp only [if_neg z5])
    · replace hs := hs.2 z5
      refine ok_aload_n 0 dX10_seen_26 rfl rfl ?_
      refine ok_getr 10 22 dX10_seen_27 f10_65 rfl c1 ?_
      refine ok_iload dX10_seen_30 rfl ?_
      obtain ⟨c6, hs⟩  := hs
      obtain ⟨c7, hs⟩  := hs
      refine ok_iald dX10_seen_32 c6 c7 ?_
      refine ok_iload_n 2 dX10_seen_33 rfl rfl ?_
      refine ok_ic_ne 41 dX10_seen_34 (by decide) (fun z8 => ?_) (fun z8 => ?_)
      · refine ok_iconst 0 dX10_seen_41 (by decide) ?_
        refine ok_wk [some (.ref v0), some (.int v1), some (.int v2), none, some (.int v4)] ⟨rfl, rfl, rfl, rfl, trivial⟩ ?_
        exact k12 (0) (by simp only [if_pos z5, if_neg z8])
      · refine ok_iconst 1 dX10_seen_37 (by decide) ?_
        refine ok_goto 42 dX10_seen_38 (by decide) ?_
        refine ok_wk [some (.ref v0), some (.int v1), some (.int v2), none, some (.int v4)] ⟨rfl, rfl, rfl, rfl, trivial⟩ ?_
        exact k12 (1) (by simp only [if_pos z5, if_pos z8])

set_option maxRecDepth 100000 in
set_option maxHeartbeats 4000000 in
theorem sX10_seenMany_0 {G : o_G} {d : Nat} {P : o_P} {i : o_I} {r : o_R} (v0 : Nat)
    (h : o_O G v0 10 ∧ (∀ x3 : Int32, x3 = (if (i v0 28) = 0 then (i v0 20) else (i v0 24)) → P (some (.int x3)) i r)) :
    Ok G (d + 1) mX10_seenMany P 0 [some (.ref v0)] [] i r := by
  refine ok_aload_n 0 dX10_seenMany_0 rfl rfl ?_
  obtain ⟨c1, h⟩ := h
  refine ok_geti 10 28 dX10_seenMany_1 f10_149 rfl c1 ?_
  have k4 : ∀ x3 : Int32, x3 = (if (i v0 28) = 0 then (i v0 20) else (i v0 24)) → Ok G (d + 1) mX10_seenMany P 18 [none] [.int x3] i r := by
    intro x3 ex3
    replace h := h x3 ex3
    exact ok_iret .int dX10_seenMany_18 rfl rfl h
  clear h
  refine ok_if_eq 14 dX10_seenMany_4 (by decide) (fun z2 => ?_) (fun z2 => ?_)
  · refine ok_aload_n 0 dX10_seenMany_14 rfl rfl ?_
    refine ok_geti 10 20 dX10_seenMany_15 f10_146 rfl c1 ?_
    refine ok_wk [none] trivial ?_
    exact k4 ((i v0 20)) (by simp only [if_pos z2])
  · refine ok_aload_n 0 dX10_seenMany_7 rfl rfl ?_
    refine ok_geti 10 24 dX10_seenMany_8 f10_133 rfl c1 ?_
    refine ok_goto 18 dX10_seenMany_11 (by decide) ?_
    refine ok_wk [none] trivial ?_
    exact k4 ((i v0 24)) (by simp only [if_neg z2])

set_option maxRecDepth 100000 in
set_option maxHeartbeats 4000000 in
theorem sX10_settle_0 {G : o_G} {d : Nat} {P : o_P} {i : o_I} {r : o_R} (v0 : Nat) (v1 : Int32) (v2 : Int32)
    (h : ∀ x1 : Int32, x1 = (v2 + 1) → Ok G (d + 1) mX10_settle P 14 [some (.ref v0), some (.int v1), some (.int v2), some (.int x1), some (.int (-1)), some (.int 100), some (.int 0), none, none, none, none, none, none] [] i r) :
    Ok G (d + 1) mX10_settle P 0 [some (.ref v0), some (.int v1), some (.int v2), none, none, none, none, none, none, none, none, none, none] [] i r := by
  refine ok_iload_n 2 dX10_settle_0 rfl rfl ?_
  refine ok_iconst 1 dX10_settle_1 (by decide) ?_
  refine ok_iadd dX10_settle_2 ?_
  refine ok_topi (fun x1 ex1 => ?_)
  replace h := h x1 ex1
  refine ok_istore_n 3 dX10_settle_3 rfl (by decide) [some (.ref v0), some (.int v1), some (.int v2), some (.int x1), none, none, none, none, none, none, none, none, none] rfl ?_
  refine ok_iconst (-1) dX10_settle_4 (by decide) ?_
  refine ok_istore dX10_settle_5 (by decide) [some (.ref v0), some (.int v1), some (.int v2), some (.int x1), some (.int (-1)), none, none, none, none, none, none, none, none] rfl ?_
  refine ok_bipush 100 dX10_settle_7 (by decide) ?_
  refine ok_istore dX10_settle_9 (by decide) [some (.ref v0), some (.int v1), some (.int v2), some (.int x1), some (.int (-1)), some (.int 100), none, none, none, none, none, none, none] rfl ?_
  refine ok_iconst 0 dX10_settle_11 (by decide) ?_
  refine ok_istore dX10_settle_12 (by decide) [some (.ref v0), some (.int v1), some (.int v2), some (.int x1), some (.int (-1)), some (.int 100), some (.int 0), none, none, none, none, none, none] rfl ?_
  exact h

set_option maxRecDepth 100000 in
set_option maxHeartbeats 4000000 in
theorem sX10_settle_14 {G : o_G} {d : Nat} {P : o_P} {i : o_I} {r : o_R} (v0 : Nat) (v1 : Int32) (v2 : Int32) (v3 : Int32) (v4 : Int32) (v5 : Int32) (v6 : Int32)
    (h : ((2 ≤ v6 → o_O G v0 10 ∧ o_Y G (r v0 13) 1 ∧ vp_in v1 (o_len G (r v0 13)) ∧ ∀ i5 : o_I, i5 = o_up i (r v0 13) v1.toNatClampNeg v3 → (∀ x8 : Int32, x8 = (if v3 ≤ v2 then (if v4 < v5 then 0 else 2) else 1) → o_Y G (r v0 10) 1 ∧ vp_in v1 (o_len G (r v0 10)) ∧ ∀ i11 : o_I, i11 = o_up i5 (r v0 10) v1.toNatClampNeg x8 → o_Y G (r v0 15) 1 ∧ vp_in v1 (o_len G (r v0 15)) ∧ ∀ i14 : o_I, i14 = o_up i11 (r v0 15) v1.toNatClampNeg 0 → P none i14 r)) ∧ (¬ 2 ≤ v6 → o_O G v0 10 ∧ SpV G d mX10_turn [.ref v0, .int v1, .int v6] (fun i17 => Ok G (d + 1) mX10_settle P 30 [some (.ref v0), some (.int v1), some (.int v2), some (.int v3), some (.int v4), some (.int v5), some (.int v6), some (.int 0), none, none, none, none, none] [] i17 r) i r))) :
    Ok G (d + 1) mX10_settle P 14 [some (.ref v0), some (.int v1), some (.int v2), some (.int v3), some (.int v4), some (.int v5), some (.int v6), none, none, none, none, none, none] [] i r := by
  refine ok_iload dX10_settle_14 rfl ?_
  refine ok_iconst 2 dX10_settle_16 (by decide) ?_
  refine ok_ic_ge 299 dX10_settle_17 (by decide) (fun z1 => ?_) (fun z1 => ?_)
  · replace h := h.1 z1
    refine ok_aload_n 0 dX10_settle_299 rfl rfl ?_
    obtain ⟨c2, h⟩ := h
    refine ok_getr 10 13 dX10_settle_300 f10_41 rfl c2 ?_
    refine ok_iload_n 1 dX10_settle_303 rfl rfl ?_
    refine ok_iload_n 3 dX10_settle_304 rfl rfl ?_
    obtain ⟨c3, h⟩ := h
    obtain ⟨c4, h⟩ := h
    refine ok_iast dX10_settle_305 c3 c4 ?_
    refine ok_nmi (fun i5 ei5 => ?_)
    replace h := h i5 ei5
    refine ok_aload_n 0 dX10_settle_306 rfl rfl ?_
    refine ok_getr 10 10 dX10_settle_307 f10_32 rfl c2 ?_
    refine ok_iload_n 1 dX10_settle_310 rfl rfl ?_
    refine ok_iload_n 3 dX10_settle_311 rfl rfl ?_
    refine ok_iload_n 2 dX10_settle_312 rfl rfl ?_
    have k15 : ∀ x8 : Int32, x8 = (if v3 ≤ v2 then (if v4 < v5 then 0 else 2) else 1) → Ok G (d + 1) mX10_settle P 332 [some (.ref v0), some (.int v1), none, none, none, none, none, none, none, none, none, none, none] [.int x8, .int v1, .ref (r v0 10)] i5 r := by
      intro x8 ex8
      replace h := h x8 ex8
      obtain ⟨c9, h⟩ := h
      obtain ⟨c10, h⟩ := h
      refine ok_iast dX10_settle_332 c9 c10 ?_
      refine ok_nmi (fun i11 ei11 => ?_)
      replace h := h i11 ei11
      refine ok_aload_n 0 dX10_settle_333 rfl rfl ?_
      refine ok_getr 10 15 dX10_settle_334 f10_47 rfl c2 ?_
      refine ok_iload_n 1 dX10_settle_337 rfl rfl ?_
      refine ok_iconst 0 dX10_settle_338 (by decide) ?_
      obtain ⟨c12, h⟩ := h
      obtain ⟨c13, h⟩ := h
      refine ok_iast dX10_settle_339 c12 c13 ?_
      refine ok_nmi (fun i14 ei14 => ?_)
      replace h := h i14 ei14
      exact ok_vret dX10_settle_340 rfl h
    clear h
    refine ok_ic_le 320 dX10_settle_313 (by decide) (fun z6 => ?_) (fun z6 => ?_)
    · refine ok_iload dX10_settle_320 rfl ?_
      refine ok_iload dX10_settle_322 rfl ?_
      refine ok_ic_lt 331 dX10_settle_324 (by decide) (fun z7 => ?_) (fun z7 => ?_)
      · refine ok_iconst 0 dX10_settle_331 (by decide) ?_
        refine ok_wk [some (.ref v0), some (.int v1), none, none, none, none, none, none, none, none, none, none, none] ⟨rfl, rfl, trivial⟩ ?_
        exact k15 (0) (by simp only [if_pos z6, if_pos z7])
      · refine ok_iconst 2 dX10_settle_327 (by decide) ?_
        refine ok_goto 332 dX10_settle_328 (by decide) ?_
        refine ok_wk [some (.ref v0), some (.int v1), none, none, none, none, none, none, none, none, none, none, none] ⟨rfl, rfl, trivial⟩ ?_
        exact k15 (2) (by simp only [if_pos z6, if_neg z7])
    · refine ok_iconst 1 dX10_settle_316 (by decide) ?_
      refine ok_goto 332 dX10_settle_317 (by decide) ?_
      refine ok_wk [some (.ref v0), some (.int v1), none, none, none, none, none, none, none, none, none, none, none] ⟨rfl, rfl, trivial⟩ ?_
      exact k15 (1) (by simp only [if_neg z6])
  · replace h := h.2 z1
    refine ok_aload_n 0 dX10_settle_20 rfl rfl ?_
    refine ok_iload_n 1 dX10_settle_21 rfl rfl ?_
    refine ok_iload dX10_settle_22 rfl ?_
    obtain ⟨c16, h⟩ := h
    refine ok_cVv (rest := []) o_rc 10 [.int v1, .int v6] dX10_settle_24 k10_126 c16 rfl rfl (Nat.le_of_ble_eq_true rfl) h (fun i17 h => ?_)
    refine ok_iconst 0 dX10_settle_27 (by decide) ?_
    refine ok_istore dX10_settle_28 (by decide) [some (.ref v0), some (.int v1), some (.int v2), some (.int v3), some (.int v4), some (.int v5), some (.int v6), some (.int 0), none, none, none, none, none] rfl ?_
    exact h

set_option maxRecDepth 100000 in
set_option maxHeartbeats 4000000 in
theorem sX10_settle_30 {G : o_G} {d : Nat} {P : o_P} {i : o_I} {r : o_R} (v0 : Nat) (v1 : Int32) (v2 : Int32) (v3 : Int32) (v4 : Int32) (v5 : Int32) (v6 : Int32) (v7 : Int32)
    (h : o_O G v0 10 ∧ (((i v0 2) ≤ v7 → ∀ x3 : Int32, x3 = v6 + 1 → Ok G (d + 1) mX10_settle P 14 [some (.ref v0), some (.int v1), some (.int v2), some (.int v3), some (.int v4), some (.int v5), some (.int x3), none, none, none, none, none, none] [] i r) ∧ (¬ (i v0 2) ≤ v7 → o_Y G (r v0 7) 1 ∧ vp_in v1 (o_len G (r v0 7)) ∧ SpI G d mX10_measure [.ref v0, .int (i (r v0 7) v1.toNatClampNeg), .int v7] (fun x6 i6 => Ok G (d + 1) mX10_settle P 56 [some (.ref v0), some (.int v1), some (.int v2), some (.int v3), some (.int v4), some (.int v5), some (.int v6), some (.int v7), some (.int x6), some (.int 1), none, none, none] [] i6 r) i r))) :
    Ok G (d + 1) mX10_settle P 30 [some (.ref v0), some (.int v1), some (.int v2), some (.int v3), some (.int v4), some (.int v5), some (.int v6), some (.int v7), none, none, none, none, none] [] i r := by
  refine ok_iload dX10_settle_30 rfl ?_
  refine ok_aload_n 0 dX10_settle_32 rfl rfl ?_
  obtain ⟨c1, h⟩ := h
  refine ok_geti 10 2 dX10_settle_33 f10_120 rfl c1 ?_
  refine ok_ic_ge 293 dX10_settle_36 (by decide) (fun z2 => ?_) (fun z2 => ?_)
  · replace h := h.1 z2
    refine ok_eqi (v6 + 1) (fun x3 ex3 => ?_)
    replace h := h x3 ex3
    refine ok_iinc 1 x3 dX10_settle_293 rfl (by decide) ex3 (by decide) [some (.ref v0), some (.int v1), some (.int v2), some (.int v3), some (.int v4), some (.int v5), some (.int x3), some (.int v7), none, none, none, none, none] rfl ?_
    refine ok_goto 14 dX10_settle_296 (by decide) ?_
    refine ok_wk [some (.ref v0), some (.int v1), some (.int v2), some (.int v3), some (.int v4), some (.int v5), some (.int x3), none, none, none, none, none, none] ⟨rfl, rfl, rfl, rfl, rfl, rfl, rfl, trivial⟩ ?_
    exact h
  · replace h := h.2 z2
    refine ok_aload_n 0 dX10_settle_39 rfl rfl ?_
    refine ok_aload_n 0 dX10_settle_40 rfl rfl ?_
    refine ok_getr 10 7 dX10_settle_41 f10_23 rfl c1 ?_
    refine ok_iload_n 1 dX10_settle_44 rfl rfl ?_
    obtain ⟨c4, h⟩ := h
    obtain ⟨c5, h⟩ := h
    refine ok_iald dX10_settle_45 c4 c5 ?_
    refine ok_iload dX10_settle_46 rfl ?_
    refine ok_cVi (rest := []) o_rc 10 [.int (i (r v0 7) v1.toNatClampNeg), .int v7] dX10_settle_48 k10_130 c1 rfl rfl (Nat.le_of_ble_eq_true rfl) h (fun x6 i6 h => ?_)
    refine ok_istore dX10_settle_51 (by decide) [some (.ref v0), some (.int v1), some (.int v2), some (.int v3), some (.int v4), some (.int v5), some (.int v6), some (.int v7), some (.int x6), none, none, none, none] rfl ?_
    refine ok_iconst 1 dX10_settle_53 (by decide) ?_
    refine ok_istore dX10_settle_54 (by decide) [some (.ref v0), some (.int v1), some (.int v2), some (.int v3), some (.int v4), some (.int v5), some (.int v6), some (.int v7), some (.int x6), some (.int 1), none, none, none] rfl ?_
    exact h

set_option maxRecDepth 100000 in
set_option maxHeartbeats 4000000 in
theorem sX10_settle_56 {G : o_G} {d : Nat} {P : o_P} {i : o_I} {r : o_R} (v0 : Nat) (v1 : Int32) (v2 : Int32) (v3 : Int32) (v4 : Int32) (v5 : Int32) (v6 : Int32) (v7 : Int32) (v8 : Int32) (v9 : Int32)
    (h : ((v8 < v9 → ∀ x2 : Int32, x2 = v7 + 1 → Ok G (d + 1) mX10_settle P 30 [some (.ref v0), some (.int v1), some (.int v2), some (.int v3), some (.int v4), some (.int v5), some (.int v6), some (.int x2), none, none, none, none, none] [] i r) ∧ (¬ v8 < v9 → o_O G v0 10 ∧ o_Y G (r v0 7) 1 ∧ vp_in v1 (o_len G (r v0 7)) ∧ o_Y G (r v0 19) 1 ∧ vp_in ((20 * (i (r v0 7) v1.toNatClampNeg)) + v9) (o_len G (r v0 19)) ∧ ∀ x8 : Int32, x8 = (i (r v0 19) ((20 * (i (r v0 7) v1.toNatClampNeg)) + v9).toNatClampNeg) → (∀ x10 : Int32, x10 = (if v3 ≤ x8 then 0 else 1) → ((¬ x10 = 0 → True) ∧ (x10 = 0 → ((¬ x8 = v3 → True) ∧ (x8 = v3 → o_Y G (r v0 11) 1 ∧ vp_in v1 (o_len G (r v0 11)) ∧ ((v7 < (i (r v0 11) v1.toNatClampNeg) → True) ∧ (¬ v7 < (i (r v0 11) v1.toNatClampNeg) → ((¬ v7 = (i (r v0 11) v1.toNatClampNeg) → True) ∧ (v7 = (i (r v0 11) v1.toNatClampNeg) → o_Y G (r v0 12) 1 ∧ vp_in v1 (o_len G (r v0 12)) ∧ True)))))))) ∧ (∀ x20 : Int32, x20 = (if x10 = 0 then (if x8 = v3 then (if v7 < (i (r v0 11) v1.toNatClampNeg) then 1 else (if v7 = (i (r v0 11) v1.toNatClampNeg) then (if (i (r v0 12) v1.toNatClampNeg) ≤ (v7 + v9) then 0 else 1) else 0)) else 0) else 1) → ((v3 < x8 → ∀ x22 : Int32, x22 = v9 + 1 → Ok G (d + 1) mX10_settle P 56 [some (.ref v0), some (.int v1), some (.int v2), some (.int v3), some (.int v4), some (.int v5), some (.int v6), some (.int v7), some (.int v8), some (.int x22), none, none, none] [] i r) ∧ (¬ v3 < x8 → ((v2 < x8 → ∀ x24 : Int32, x24 = v9 + 1 → Ok G (d + 1) mX10_settle P 56 [some (.ref v0), some (.int v1), some (.int v2), some (.int v3), some (.int v4), some (.int v5), some (.int v6), some (.int v7), some (.int v8), some (.int x24), none, none, none] [] i r) ∧ (¬ v2 < x8 → (∀ x27 : Int32, x27 = (if x10 = 0 then (if v7 ≤ v4 then v4 else v7) else v7) → (∀ x30 : Int32, x30 = (if x10 = 0 then (if v5 ≤ (v7 + v9) then v5 else (v7 + v9)) else (v7 + v9)) → ((x20 = 0 → o_Y G (r v0 11) 1 ∧ vp_in v1 (o_len G (r v0 11)) ∧ True) ∧ (¬ x20 = 0 → True)) ∧ (∀ x34 : Int32, x34 = (if x20 = 0 then (i (r v0 11) v1.toNatClampNeg) else v7) → o_Y G (r v0 11) 1 ∧ vp_in v1 (o_len G (r v0 11)) ∧ ∀ i37 : o_I, i37 = o_up i (r v0 11) v1.toNatClampNeg x34 → ((x20 = 0 → o_Y G (r v0 12) 1 ∧ vp_in v1 (o_len G (r v0 12)) ∧ True) ∧ (¬ x20 = 0 → True)) ∧ (∀ x41 : Int32, x41 = (if x20 = 0 then (i37 (r v0 12) v1.toNatClampNeg) else (v7 + v9)) → o_Y G (r v0 12) 1 ∧ vp_in v1 (o_len G (r v0 12)) ∧ ∀ i44 : o_I, i44 = o_up i37 (r v0 12) v1.toNatClampNeg x41 → ((x20 = 0 → o_Y G (r v0 14) 1 ∧ vp_in v1 (o_len G (r v0 14)) ∧ True) ∧ (¬ x20 = 0 → True)) ∧ (∀ x48 : Int32, x48 = (if x20 = 0 then (i44 (r v0 14) v1.toNatClampNeg) else v6) → o_Y G (r v0 14) 1 ∧ vp_in v1 (o_len G (r v0 14)) ∧ ∀ i51 : o_I, i51 = o_up i44 (r v0 14) v1.toNatClampNeg x48 → ∀ x52 : Int32, x52 = v9 + 1 → Ok G (d + 1) mX10_settle P 56 [some (.ref v0), some (.int v1), some (.int v2), some (.int x8), some (.int x27), some (.int x30), some (.int v6), some (.int v7), some (.int v8), some (.int x52), none, none, none] [] i51 r)))))))))))))) :
    Ok G (d + 1) mX10_settle P 56 [some (.ref v0), some (.int v1), some (.int v2), some (.int v3), some (.int v4), some (.int v5), some (.int v6), some (.int v7), some (.int v8), some (.int v9), none, none, none] [] i r := by
  refine ok_iload dX10_settle_56 rfl ?_
  refine ok_iload dX10_settle_58 rfl ?_
  refine ok_ic_gt 287 dX10_settle_60 (by decide) (fun z1 => ?_) (fun z1 => ?_)
  · replace h := h.1 z1
    refine ok_eqi (v7 + 1) (fun x2 ex2 => ?_)
    replace h := h x2 ex2
    refine ok_iinc 1 x2 dX10_settle_287 rfl (by decide) ex2 (by decide) [some (.ref v0), some (.int v1), some (.int v2), some (.int v3), some (.int v4), some (.int v5), some (.int v6), some (.int x2), some (.int v8), some (.int v9), none, none, none] rfl ?_
    refine ok_goto 30 dX10_settle_290 (by decide) ?_
    refine ok_wk [some (.ref v0), some (.int v1), some (.int v2), some (.int v3), some (.int v4), some (.int v5), some (.int v6), some (.int x2), none, none, none, none, none] ⟨rfl, rfl, rfl, rfl, rfl, rfl, rfl, rfl, trivial⟩ ?_
    exact h
  · replace h := h.2 z1
    refine ok_aload_n 0 dX10_settle_63 rfl rfl ?_
    obtain ⟨c3, h⟩ := h
    refine ok_getr 10 19 dX10_settle_64 f10_59 rfl c3 ?_
    refine ok_bipush 20 dX10_settle_67 (by decide) ?_
    refine ok_aload_n 0 dX10_settle_69 rfl rfl ?_
    refine ok_getr 10 7 dX10_settle_70 f10_23 rfl c3 ?_
    refine ok_iload_n 1 dX10_settle_73 rfl rfl ?_
    obtain ⟨c4, h⟩ := h
    obtain ⟨c5, h⟩ := h
    refine ok_iald dX10_settle_74 c4 c5 ?_
    refine ok_imul dX10_settle_75 ?_
    refine ok_iload dX10_settle_76 rfl ?_
    refine ok_iadd dX10_settle_78 ?_
    obtain ⟨c6, h⟩ := h
    obtain ⟨c7, h⟩ := h
    refine ok_iald dX10_settle_79 c6 c7 ?_
    refine ok_topi (fun x8 ex8 => ?_)
    replace h := h x8 ex8
    refine ok_istore dX10_settle_80 (by decide) [some (.ref v0), some (.int v1), some (.int v2), some (.int v3), some (.int v4), some (.int v5), some (.int v6), some (.int v7), some (.int v8), some (.int v9), some (.int x8), none, none] rfl ?_
    refine ok_iload dX10_settle_82 rfl ?_
    refine ok_iload_n 3 dX10_settle_84 rfl rfl ?_
    have k59 : ∀ x10 : Int32, x10 = (if v3 ≤ x8 then 0 else 1) → Ok G (d + 1) mX10_settle P 93 [some (.ref v0), some (.int v1), some (.int v2), some (.int v3), some (.int v4), some (.int v5), some (.int v6), some (.int v7), some (.int v8), some (.int v9), some (.int x8), none, none] [.int x10] i r := by
      intro x10 ex10
      replace h := h x10 ex10
      refine ok_istore dX10_settle_93 (by decide) [some (.ref v0), some (.int v1), some (.int v2), some (.int v3), some (.int v4), some (.int v5), some (.int v6), some (.int v7), some (.int v8), some (.int v9), some (.int x8), some (.int x10), none] rfl ?_
      refine ok_iload dX10_settle_95 rfl ?_
      obtain ⟨hs, h⟩ := h
      have k58 : ∀ x20 : Int32, x20 = (if x10 = 0 then (if x8 = v3 then (if v7 < (i (r v0 11) v1.toNatClampNeg) then 1 else (if v7 = (i (r v0 11) v1.toNatClampNeg) then (if (i (r v0 12) v1.toNatClampNeg) ≤ (v7 + v9) then 0 else 1) else 0)) else 0) else 1) → Ok G (d + 1) mX10_settle P 147 [some (.ref v0), some (.int v1), some (.int v2), some (.int v3), some (.int v4), some (.int v5), some (.int v6), some (.int v7), some (.int v8), some (.int v9), some (.int x8), some (.int x10), none] [.int x20] i r := by
        intro x20 ex20
        replace h := h x20 ex20
        refine ok_istore dX10_settle_147 (by decide) [some (.ref v0), some (.int v1), some (.int v2), some (.int v3), some (.int v4), some (.int v5), some (.int v6), some (.int v7), some (.int v8), some (.int v9), some (.int x8), some (.int x10), some (.int x20)] rfl ?_
        refine ok_iload dX10_settle_149 rfl ?_
        refine ok_iload_n 3 dX10_settle_151 rfl rfl ?_
        refine ok_ic_gt 281 dX10_settle_152 (by decide) (fun z21 => ?_) (fun z21 => ?_)
        · replace h := h.1 z21
          refine ok_eqi (v9 + 1) (fun x22 ex22 => ?_)
          replace h := h x22 ex22
          refine ok_iinc 1 x22 dX10_settle_281 rfl (by decide) ex22 (by decide) [some (.ref v0), some (.int v1), some (.int v2), some (.int v3), some (.int v4), some (.int v5), some (.int v6), some (.int v7), some (.int v8), some (.int x22), some (.int x8), some (.int x10), some (.int x20)] rfl ?_
          refine ok_goto 56 dX10_settle_284 (by decide) ?_
          refine ok_wk [some (.ref v0), some (.int v1), some (.int v2), some (.int v3), some (.int v4), some (.int v5), some (.int v6), some (.int v7), some (.int v8), some (.int x22), none, none, none] ⟨rfl, rfl, rfl, rfl, rfl, rfl, rfl, rfl, rfl, rfl, trivial⟩ ?_
          exact h
        · replace h := h.2 z21
          refine ok_iload dX10_settle_155 rfl ?_
          refine ok_iload_n 2 dX10_settle_157 rfl rfl ?_
          refine ok_ic_gt 281 dX10_settle_158 (by decide) (fun z23 => ?_) (fun z23 => ?_)
          · replace h := h.1 z23
            refine ok_eqi (v9 + 1) (fun x24 ex24 => ?_)
            replace h := h x24 ex24
            refine ok_iinc 1 x24 dX10_settle_281 rfl (by decide) ex24 (by decide) [some (.ref v0), some (.int v1), some (.int v2), some (.int v3), some (.int v4), some (.int v5), some (.int v6), some (.int v7), some (.int v8), some (.int x24), some (.int x8), some (.int x10), some (.int x20)] rfl ?_
            refine ok_goto 56 dX10_settle_284 (by decide) ?_
            refine ok_wk [some (.ref v0), some (.int v1), some (.int v2), some (.int v3), some (.int v4), some (.int v5), some (.int v6), some (.int v7), some (.int v8), some (.int x24), none, none, none] ⟨rfl, rfl, rfl, rfl, rfl, rfl, rfl, rfl, rfl, rfl, trivial⟩ ?_
            exact h
          · replace h := h.2 z23
            refine ok_iload dX10_settle_161 rfl ?_
            have k57 : ∀ x27 : Int32, x27 = (if x10 = 0 then (if v7 ≤ v4 then v4 else v7) else v7) → Ok G (d + 1) mX10_settle P 180 [some (.ref v0), some (.int v1), some (.int v2), none, none, some (.int v5), some (.int v6), some (.int v7), some (.int v8), some (.int v9), some (.int x8), some (.int x10), some (.int x20)] [.int x27] i r := by
              intro x27 ex27
              replace h := h x27 ex27
              refine ok_istore dX10_settle_180 (by decide) [some (.ref v0), some (.int v1), some (.int v2), none, some (.int x27), some (.int v5), some (.int v6), some (.int v7), some (.int v8), some (.int v9), some (.int x8), some (.int x10), some (.int x20)] rfl ?_
              refine ok_iload dX10_settle_182 rfl ?_
              have k56 : ∀ x30 : Int32, x30 = (if x10 = 0 then (if v5 ≤ (v7 + v9) then v5 else (v7 + v9)) else (v7 + v9)) → Ok G (d + 1) mX10_settle P 207 [some (.ref v0), some (.int v1), some (.int v2), none, some (.int x27), none, some (.int v6), some (.int v7), some (.int v8), some (.int v9), some (.int x8), none, some (.int x20)] [.int x30] i r := by
                intro x30 ex30
                replace h := h x30 ex30
                refine ok_istore dX10_settle_207 (by decide) [some (.ref v0), some (.int v1), some (.int v2), none, some (.int x27), some (.int x30), some (.int v6), some (.int v7), some (.int v8), some (.int v9), some (.int x8), none, some (.int x20)] rfl ?_
                refine ok_aload_n 0 dX10_settle_209 rfl rfl ?_
                refine ok_getr 10 11 dX10_settle_210 f10_35 rfl c3 ?_
                refine ok_iload_n 1 dX10_settle_213 rfl rfl ?_
                refine ok_iload dX10_settle_214 rfl ?_
                obtain ⟨hs, h⟩ := h
                have k55 : ∀ x34 : Int32, x34 = (if x20 = 0 then (i (r v0 11) v1.toNatClampNeg) else v7) → Ok G (d + 1) mX10_settle P 230 [some (.ref v0), some (.int v1), some (.int v2), none, some (.int x27), some (.int x30), some (.int v6), some (.int v7), some (.int v8), some (.int v9), some (.int x8), none, some (.int x20)] [.int x34, .int v1, .ref (r v0 11)] i r := by
                  intro x34 ex34
                  replace h := h x34 ex34
                  obtain ⟨c35, h⟩ := h
                  obtain ⟨c36, h⟩ := h
                  refine ok_iast dX10_settle_230 c35 c36 ?_
                  refine ok_nmi (fun i37 ei37 => ?_)
                  replace h := h i37 ei37
                  refine ok_aload_n 0 dX10_settle_231 rfl rfl ?_
                  refine ok_getr 10 12 dX10_settle_232 f10_38 rfl c3 ?_
                  refine ok_iload_n 1 dX10_settle_235 rfl rfl ?_
                  refine ok_iload dX10_settle_236 rfl ?_
                  obtain ⟨hs, h⟩ := h
                  have k54 : ∀ x41 : Int32, x41 = (if x20 = 0 then (i37 (r v0 12) v1.toNatClampNeg) else (v7 + v9)) → Ok G (d + 1) mX10_settle P 255 [some (.ref v0), some (.int v1), some (.int v2), none, some (.int x27), some (.int x30), some (.int v6), some (.int v7), some (.int v8), some (.int v9), some (.int x8), none, some (.int x20)] [.int x41, .int v1, .ref (r v0 12)] i37 r := by
                    intro x41 ex41
                    replace h := h x41 ex41
                    obtain ⟨c42, h⟩ := h
                    obtain ⟨c43, h⟩ := h
                    refine ok_iast dX10_settle_255 c42 c43 ?_
                    refine ok_nmi (fun i44 ei44 => ?_)
                    replace h := h i44 ei44
                    refine ok_aload_n 0 dX10_settle_256 rfl rfl ?_
                    refine ok_getr 10 14 dX10_settle_257 f10_44 rfl c3 ?_
                    refine ok_iload_n 1 dX10_settle_260 rfl rfl ?_
                    refine ok_iload dX10_settle_261 rfl ?_
                    obtain ⟨hs, h⟩ := h
                    have k53 : ∀ x48 : Int32, x48 = (if x20 = 0 then (i44 (r v0 14) v1.toNatClampNeg) else v6) → Ok G (d + 1) mX10_settle P 277 [some (.ref v0), some (.int v1), some (.int v2), none, some (.int x27), some (.int x30), some (.int v6), some (.int v7), some (.int v8), some (.int v9), some (.int x8), none, none] [.int x48, .int v1, .ref (r v0 14)] i44 r := by
                      intro x48 ex48
                      replace h := h x48 ex48
                      obtain ⟨c49, h⟩ := h
                      obtain ⟨c50, h⟩ := h
                      refine ok_iast dX10_settle_277 c49 c50 ?_
                      refine ok_nmi (fun i51 ei51 => ?_)
                      replace h := h i51 ei51
                      refine ok_iload dX10_settle_278 rfl ?_
                      refine ok_istore_n 3 dX10_settle_280 rfl (by decide) [some (.ref v0), some (.int v1), some (.int v2), some (.int x8), some (.int x27), some (.int x30), some (.int v6), some (.int v7), some (.int v8), some (.int v9), some (.int x8), none, none] rfl ?_
                      refine ok_eqi (v9 + 1) (fun x52 ex52 => ?_)
                      replace h := h x52 ex52
                      refine ok_iinc 1 x52 dX10_settle_281 rfl (by decide) ex52 (by decide) [some (.ref v0), some (.int v1), some (.int v2), some (.int x8), some (.int x27), some (.int x30), some (.int v6), some (.int v7), some (.int v8), some (.int x52), some (.int x8), none, none] rfl ?_
                      refine ok_goto 56 dX10_settle_284 (by decide) ?_
                      refine ok_wk [some (.ref v0), some (.int v1), some (.int v2), some (.int x8), some (.int x27), some (.int x30), some (.int v6), some (.int v7), some (.int v8), some (.int x52), none, none, none] ⟨rfl, rfl, rfl, rfl, rfl, rfl, rfl, rfl, rfl, rfl, trivial⟩ ?_
                      exact h
                    clear h
                    refine ok_if_eq 271 dX10_settle_263 (by decide) (fun z45 => ?_) (fun z45 => ?_)
                    · replace hs := hs.1 z45
                      refine ok_aload_n 0 dX10_settle_271 rfl rfl ?_
                      refine ok_getr 10 14 dX10_settle_272 f10_44 rfl c3 ?_
                      refine ok_iload_n 1 dX10_settle_275 rfl rfl ?_
                      obtain ⟨c46, hs⟩  := hs
                      obtain ⟨c47, hs⟩  := hs
                      refine ok_iald dX10_settle_276 c46 c47 ?_
                      refine ok_wk [some (.ref v0), some (.int v1), some (.int v2), none, some (.int x27), some (.int x30), some (.int v6), some (.int v7), some (.int v8), some (.int v9), some (.int x8), none, none] ⟨rfl, rfl, rfl, rfl, rfl, rfl, rfl, rfl, rfl, rfl, trivial⟩ ?_
                      exact k53 ((i44 (r v0 14) v1.toNatClampNeg)) (by simp only [if_pos z45])
                    · replace hs := hs.2 z45
                      refine ok_iload dX10_settle_266 rfl ?_
                      refine ok_goto 277 dX10_settle_268 (by decide) ?_
                      refine ok_wk [some (.ref v0), some (.int v1), some (.int v2), none, some (.int x27), some (.int x30), some (.int v6), some (.int v7), some (.int v8), some (.int v9), some (.int x8), none, none] ⟨rfl, rfl, rfl, rfl, rfl, rfl, rfl, rfl, rfl, rfl, trivial⟩ ?_
                      exact k53 (v6) (by simp only [if_neg z45])
                  clear h
                  refine ok_if_eq 249 dX10_settle_238 (by decide) (fun z38 => ?_) (fun z38 => ?_)
                  · replace hs := hs.1 z38
                    refine ok_aload_n 0 dX10_settle_249 rfl rfl ?_
                    refine ok_getr 10 12 dX10_settle_250 f10_38 rfl c3 ?_
                    refine ok_iload_n 1 dX10_settle_253 rfl rfl ?_
                    obtain ⟨c39, hs⟩  := hs
                    obtain ⟨c40, hs⟩  := hs
                    refine ok_iald dX10_settle_254 c39 c40 ?_
                    exact k54 ((i37 (r v0 12) v1.toNatClampNeg)) (by simp only [if_pos z38])
                  · replace hs := hs.2 z38
                    refine ok_iload dX10_settle_241 rfl ?_
                    refine ok_iload dX10_settle_243 rfl ?_
                    refine ok_iadd dX10_settle_245 ?_
                    refine ok_goto 255 dX10_settle_246 (by decide) ?_
                    exact k54 ((v7 + v9)) (by simp only [if_neg z38])
                clear h
                refine ok_if_eq 224 dX10_settle_216 (by decide) (fun z31 => ?_) (fun z31 => ?_)
                · replace hs := hs.1 z31
                  refine ok_aload_n 0 dX10_settle_224 rfl rfl ?_
                  refine ok_getr 10 11 dX10_settle_225 f10_35 rfl c3 ?_
                  refine ok_iload_n 1 dX10_settle_228 rfl rfl ?_
                  obtain ⟨c32, hs⟩  := hs
                  obtain ⟨c33, hs⟩  := hs
                  refine ok_iald dX10_settle_229 c32 c33 ?_
                  exact k55 ((i (r v0 11) v1.toNatClampNeg)) (by simp only [if_pos z31])
                · replace hs := hs.2 z31
                  refine ok_iload dX10_settle_219 rfl ?_
                  refine ok_goto 230 dX10_settle_221 (by decide) ?_
                  exact k55 (v7) (by simp only [if_neg z31])
              clear h
              refine ok_if_ne 197 dX10_settle_184 (by decide) (fun z28 => ?_) (fun z28 => ?_)
              · refine ok_iload dX10_settle_197 rfl ?_
                refine ok_iload dX10_settle_199 rfl ?_
                refine ok_iadd dX10_settle_201 ?_
                refine ok_goto 207 dX10_settle_202 (by decide) ?_
                refine ok_wk [some (.ref v0), some (.int v1), some (.int v2), none, some (.int x27), none, some (.int v6), some (.int v7), some (.int v8), some (.int v9), some (.int x8), none, some (.int x20)] ⟨rfl, rfl, rfl, rfl, rfl, rfl, rfl, rfl, rfl, rfl, trivial⟩ ?_
                exact k56 ((v7 + v9)) (by simp only [if_neg z28])
              · refine ok_iload dX10_settle_187 rfl ?_
                refine ok_iload dX10_settle_189 rfl ?_
                refine ok_iadd dX10_settle_191 ?_
                refine ok_iload dX10_settle_192 rfl ?_
                refine ok_ic_ge 205 dX10_settle_194 (by decide) (fun z29 => ?_) (fun z29 => ?_)
                · refine ok_iload dX10_settle_205 rfl ?_
                  refine ok_wk [some (.ref v0), some (.int v1), some (.int v2), none, some (.int x27), none, some (.int v6), some (.int v7), some (.int v8), some (.int v9), some (.int x8), none, some (.int x20)] ⟨rfl, rfl, rfl, rfl, rfl, rfl, rfl, rfl, rfl, rfl, trivial⟩ ?_
                  exact k56 (v5) (by simp only [if_pos z28, if_pos z29])
                · refine ok_iload dX10_settle_197 rfl ?_
                  refine ok_iload dX10_settle_199 rfl ?_
                  refine ok_iadd dX10_settle_201 ?_
                  refine ok_goto 207 dX10_settle_202 (by decide) ?_
                  refine ok_wk [some (.ref v0), some (.int v1), some (.int v2), none, some (.int x27), none, some (.int v6), some (.int v7), some (.int v8), some (.int v9), some (.int x8), none, some (.int x20)] ⟨rfl, rfl, rfl, rfl, rfl, rfl, rfl, rfl, rfl, rfl, trivial⟩ ?_
                  exact k56 ((v7 + v9)) (by simp only [if_pos z28, if_neg z29])
            clear h
            refine ok_if_ne 173 dX10_settle_163 (by decide) (fun z25 => ?_) (fun z25 => ?_)
            · refine ok_iload dX10_settle_173 rfl ?_
              refine ok_goto 180 dX10_settle_175 (by decide) ?_
              refine ok_wk [some (.ref v0), some (.int v1), some (.int v2), none, none, some (.int v5), some (.int v6), some (.int v7), some (.int v8), some (.int v9), some (.int x8), some (.int x10), some (.int x20)] ⟨rfl, rfl, rfl, rfl, rfl, rfl, rfl, rfl, rfl, rfl, rfl, trivial⟩ ?_
              exact k57 (v7) (by simp only [if_neg z25])
            · refine ok_iload dX10_settle_166 rfl ?_
              refine ok_iload dX10_settle_168 rfl ?_
              refine ok_ic_le 178 dX10_settle_170 (by decide) (fun z26 => ?_) (fun z26 => ?_)
              · refine ok_iload dX10_settle_178 rfl ?_
                refine ok_wk [some (.ref v0), some (.int v1), some (.int v2), none, none, some (.int v5), some (.int v6), some (.int v7), some (.int v8), some (.int v9), some (.int x8), some (.int x10), some (.int x20)] ⟨rfl, rfl, rfl, rfl, rfl, rfl, rfl, rfl, rfl, rfl, rfl, trivial⟩ ?_
                exact k57 (v4) (by simp only [if_pos z25, if_pos z26])
              · refine ok_iload dX10_settle_173 rfl ?_
                refine ok_goto 180 dX10_settle_175 (by decide) ?_
                refine ok_wk [some (.ref v0), some (.int v1), some (.int v2), none, none, some (.int v5), some (.int v6), some (.int v7), some (.int v8), some (.int v9), some (.int x8), some (.int x10), some (.int x20)] ⟨rfl, rfl, rfl, rfl, rfl, rfl, rfl, rfl, rfl, rfl, rfl, trivial⟩ ?_
                exact k57 (v7) (by simp only [if_pos z25, if_neg z26])
      clear h
      refine ok_if_ne 142 dX10_settle_97 (by decide) (fun z11 => ?_) (fun z11 => ?_)
      · replace hs := hs.1 z11
        refine ok_iconst 1 dX10_settle_142 (by decide) ?_
        refine ok_goto 147 dX10_settle_143 (by decide) ?_
        exact k58 (1) (by simp only [if_neg z11])
      · replace hs := hs.2 z11
        refine ok_iload dX10_settle_100 rfl ?_
        refine ok_iload_n 3 dX10_settle_102 rfl rfl ?_
        refine ok_ic_ne 146 dX10_settle_103 (by decide) (fun z12 => ?_) (fun z12 => ?_)
        · replace hs := hs.1 z12
          refine ok_iconst 0 dX10_settle_146 (by decide) ?_
          exact k58 (0) (by simp only [if_pos z11, if_neg z12])
        · replace hs := hs.2 z12
          refine ok_iload dX10_settle_106 rfl ?_
          refine ok_aload_n 0 dX10_settle_108 rfl rfl ?_
          refine ok_getr 10 11 dX10_settle_109 f10_35 rfl c3 ?_
          refine ok_iload_n 1 dX10_settle_112 rfl rfl ?_
          obtain ⟨c13, hs⟩  := hs
          obtain ⟨c14, hs⟩  := hs
          refine ok_iald dX10_settle_113 c13 c14 ?_
          refine ok_ic_lt 142 dX10_settle_114 (by decide) (fun z15 => ?_) (fun z15 => ?_)
          · replace hs := hs.1 z15
            refine ok_iconst 1 dX10_settle_142 (by decide) ?_
            refine ok_goto 147 dX10_settle_143 (by decide) ?_
            exact k58 (1) (by simp only [if_pos z11, if_pos z12, if_pos z15])
          · replace hs := hs.2 z15
            refine ok_iload dX10_settle_117 rfl ?_
            refine ok_aload_n 0 dX10_settle_119 rfl rfl ?_
            refine ok_getr 10 11 dX10_settle_120 f10_35 rfl c3 ?_
            refine ok_iload_n 1 dX10_settle_123 rfl rfl ?_
            refine ok_iald dX10_settle_124 c13 c14 ?_
            refine ok_ic_ne 146 dX10_settle_125 (by decide) (fun z16 => ?_) (fun z16 => ?_)
            · replace hs := hs.1 z16
              refine ok_iconst 0 dX10_settle_146 (by decide) ?_
              exact k58 (0) (by simp only [if_pos z11, if_pos z12, if_neg z15, if_neg z16])
            · replace hs := hs.2 z16
              refine ok_iload dX10_settle_128 rfl ?_
              refine ok_iload dX10_settle_130 rfl ?_
              refine ok_iadd dX10_settle_132 ?_
              refine ok_aload_n 0 dX10_settle_133 rfl rfl ?_
              refine ok_getr 10 12 dX10_settle_134 f10_38 rfl c3 ?_
              refine ok_iload_n 1 dX10_settle_137 rfl rfl ?_
              obtain ⟨c17, hs⟩  := hs
              obtain ⟨c18, hs⟩  := hs
              refine ok_iald dX10_settle_138 c17 c18 ?_
              refine ok_ic_ge 146 dX10_settle_139 (by decide) (fun z19 => ?_) (fun z19 => ?_)
              · refine ok_iconst 0 dX10_settle_146 (by decide) ?_
                exact k58 (0) (by simp only [if_pos z11, if_pos z12, if_neg z15, if_pos z16, if_pos z19])
              · refine ok_iconst 1 dX10_settle_142 (by decide) ?_
                refine ok_goto 147 dX10_settle_143 (by decide) ?_
                exact k58 (1) (by simp only [if_pos z11, if_pos z12, if_neg z15, if_pos z16, if_neg z19])
    clear h
    refine ok_ic_ge 92 dX10_settle_85 (by decide) (fun z9 => ?_) (fun z9 => ?_)
    · refine ok_iconst 0 dX10_settle_92 (by decide) ?_
      exact k59 (0) (by simp only [if_pos z9])
    · refine ok_iconst 1 dX10_settle_88 (by decide) ?_
      refine ok_goto 93 dX10_settle_89 (by decide) ?_
      exact k59 (1) (by simp only [if_neg z9])

set_option maxRecDepth 100000 in
set_option maxHeartbeats 4000000 in
theorem sX10_siteThere_0 {G : o_G} {d : Nat} {P : o_P} {i : o_I} {r : o_R} (v0 : Nat) (v1 : Int32) (v2 : Int32)
    (h : ((v1 = 0 → o_O G v0 10 ∧ SpI G d mX10_reported [.ref v0, .int v1, .int v2] (fun x3 i3 => (∀ x5 : Int32, x5 = (if x3 = 0 then 0 else 1) → (x5 = 0 ∨ x5 = 1) ∧ P (some (.int x5)) i3 r)) i r) ∧ (¬ v1 = 0 → o_O G v0 10 ∧ ((((i v0 2) - 1) ≤ v2 → P (some (.int 0)) i r) ∧ (¬ ((i v0 2) - 1) ≤ v2 → SpI G d mX10_reported [.ref v0, .int v1, .int v2] (fun x10 i10 => (∀ x12 : Int32, x12 = (if x10 = 0 then 0 else 1) → (x12 = 0 ∨ x12 = 1) ∧ P (some (.int x12)) i10 r)) i r))))) :
    Ok G (d + 1) mX10_siteThere P 0 [some (.ref v0), some (.int v1), some (.int v2)] [] i r := by
  refine ok_iload_n 1 dX10_siteThere_0 rfl rfl ?_
  refine ok_if_eq 14 dX10_siteThere_1 (by decide) (fun z1 => ?_) (fun z1 => ?_)
  · replace h := h.1 z1
    refine ok_aload_n 0 dX10_siteThere_14 rfl rfl ?_
    refine ok_iload_n 1 dX10_siteThere_15 rfl rfl ?_
    refine ok_iload_n 2 dX10_siteThere_16 rfl rfl ?_
    obtain ⟨c2, h⟩ := h
    refine ok_cVi (rest := []) o_rc 10 [.int v1, .int v2] dX10_siteThere_17 k10_220 c2 rfl rfl (Nat.le_of_ble_eq_true rfl) h (fun x3 i3 h => ?_)
    have k7 : ∀ x5 : Int32, x5 = (if x3 = 0 then 0 else 1) → Ok G (d + 1) mX10_siteThere P 28 [none, none, none] [.int x5] i3 r := by
      intro x5 ex5
      replace h := h x5 ex5
      obtain ⟨c6, h⟩ := h
      exact ok_iret .boolean dX10_siteThere_28 rfl (o_bool c6).1 h
    clear h
    refine ok_if_eq 27 dX10_siteThere_20 (by decide) (fun z4 => ?_) (fun z4 => ?_)
    · refine ok_iconst 0 dX10_siteThere_27 (by decide) ?_
      refine ok_wk [none, none, none] trivial ?_
      exact k7 (0) (by simp only [if_pos z4])
    · refine ok_iconst 1 dX10_siteThere_23 (by decide) ?_
      refine ok_goto 28 dX10_siteThere_24 (by decide) ?_
      refine ok_wk [none, none, none] trivial ?_
      exact k7 (1) (by simp only [if_neg z4])
  · replace h := h.2 z1
    refine ok_iload_n 2 dX10_siteThere_4 rfl rfl ?_
    refine ok_aload_n 0 dX10_siteThere_5 rfl rfl ?_
    obtain ⟨c8, h⟩ := h
    refine ok_geti 10 2 dX10_siteThere_6 f10_120 rfl c8 ?_
    refine ok_iconst 1 dX10_siteThere_9 (by decide) ?_
    refine ok_isub dX10_siteThere_10 ?_
    refine ok_ic_ge 27 dX10_siteThere_11 (by decide) (fun z9 => ?_) (fun z9 => ?_)
    · replace h := h.1 z9
      refine ok_iconst 0 dX10_siteThere_27 (by decide) ?_
      exact ok_iret .boolean dX10_siteThere_28 rfl rfl h
    · replace h := h.2 z9
      refine ok_aload_n 0 dX10_siteThere_14 rfl rfl ?_
      refine ok_iload_n 1 dX10_siteThere_15 rfl rfl ?_
      refine ok_iload_n 2 dX10_siteThere_16 rfl rfl ?_
      refine ok_cVi (rest := []) o_rc 10 [.int v1, .int v2] dX10_siteThere_17 k10_220 c8 rfl rfl (Nat.le_of_ble_eq_true rfl) h (fun x10 i10 h => ?_)
      have k14 : ∀ x12 : Int32, x12 = (if x10 = 0 then 0 else 1) → Ok G (d + 1) mX10_siteThere P 28 [none, none, none] [.int x12] i10 r := by
        intro x12 ex12
        replace h := h x12 ex12
        obtain ⟨c13, h⟩ := h
        exact ok_iret .boolean dX10_siteThere_28 rfl (o_bool c13).1 h
      clear h
      refine ok_if_eq 27 dX10_siteThere_20 (by decide) (fun z11 => ?_) (fun z11 => ?_)
      · refine ok_iconst 0 dX10_siteThere_27 (by decide) ?_
        refine ok_wk [none, none, none] trivial ?_
        exact k14 (0) (by simp only [if_pos z11])
      · refine ok_iconst 1 dX10_siteThere_23 (by decide) ?_
        refine ok_goto 28 dX10_siteThere_24 (by decide) ?_
        refine ok_wk [none, none, none] trivial ?_
        exact k14 (1) (by simp only [if_neg z11])

set_option maxRecDepth 100000 in
set_option maxHeartbeats 4000000 in
theorem sX10_size_0 {G : o_G} {d : Nat} {P : o_P} {i : o_I} {r : o_R} (v0 : Nat) (v1 : Int32)
    (h : SpI G d mX10_outside [.int v1, .int 0, .int 1] (fun x1 i1 => ((x1 = 0 → o_O G v0 10 ∧ o_Y G (r v0 1) 1 ∧ vp_in v1 (o_len G (r v0 1)) ∧ True) ∧ (¬ x1 = 0 → True)) ∧ (∀ x6 : Int32, x6 = (if x1 = 0 then (i1 (r v0 1) v1.toNatClampNeg) else (-1)) → P (some (.int x6)) i1 r)) i r) :
    Ok G (d + 1) mX10_size P 0 [some (.ref v0), some (.int v1)] [] i r := by
  refine ok_iload_n 1 dX10_size_0 rfl rfl ?_
  refine ok_iconst 0 dX10_size_1 (by decide) ?_
  refine ok_iconst 1 dX10_size_2 (by decide) ?_
  refine ok_cSi (rest := []) o_rc [.int v1, .int 0, .int 1] dX10_size_3 k10_89 rfl rfl (Nat.le_of_ble_eq_true rfl) h (fun x1 i1 h => ?_)
  obtain ⟨hs, h⟩ := h
  have k7 : ∀ x6 : Int32, x6 = (if x1 = 0 then (i1 (r v0 1) v1.toNatClampNeg) else (-1)) → Ok G (d + 1) mX10_size P 19 [none, none] [.int x6] i1 r := by
    intro x6 ex6
    replace h := h x6 ex6
    exact ok_iret .int dX10_size_19 rfl rfl h
  clear h
  refine ok_if_eq 13 dX10_size_6 (by decide) (fun z2 => ?_) (fun z2 => ?_)
  · replace hs := hs.1 z2
    refine ok_aload_n 0 dX10_size_13 rfl rfl ?_
    obtain ⟨c3, hs⟩  := hs
    refine ok_getr 10 1 dX10_size_14 f10_13 rfl c3 ?_
    refine ok_iload_n 1 dX10_size_17 rfl rfl ?_
    obtain ⟨c4, hs⟩  := hs
    obtain ⟨c5, hs⟩  := hs
    refine ok_iald dX10_size_18 c4 c5 ?_
    refine ok_wk [none, none] trivial ?_
    exact k7 ((i1 (r v0 1) v1.toNatClampNeg)) (by simp only [if_pos z2])
  · replace hs := hs.2 z2
    refine ok_iconst (-1) dX10_size_9 (by decide) ?_
    refine ok_goto 19 dX10_size_10 (by decide) ?_
    refine ok_wk [none, none] trivial ?_
    exact k7 ((-1)) (by simp only [if_neg z2])

set_option maxRecDepth 100000 in
set_option maxHeartbeats 4000000 in
theorem sX10_step_0 {G : o_G} {d : Nat} {P : o_P} {i : o_I} {r : o_R} (v0 : Nat) (v1 : Int32) (v2 : Int32)
    (h : o_O G v0 10 ∧ SpI G d mX10_outside [.int v1, .int 0, .int ((i v0 6) - 1)] (fun x2 i2 => ((¬ x2 = 0 → P (some (.int 0)) i2 r) ∧ (x2 = 0 → o_Y G (r v0 15) 1 ∧ vp_in v1 (o_len G (r v0 15)) ∧ SpI G d mX10_outside [.int v2, .int 0, .int ((i2 (r v0 15) v1.toNatClampNeg) - 1)] (fun x6 i6 => ((x6 = 0 → o_Y G (r v0 16) 1 ∧ vp_in ((40 * v1) + v2) (o_len G (r v0 16)) ∧ True) ∧ (¬ x6 = 0 → True)) ∧ (∀ x10 : Int32, x10 = (if x6 = 0 then (i6 (r v0 16) ((40 * v1) + v2).toNatClampNeg) else 0) → P (some (.int x10)) i6 r)) i2 r))) i r) :
    Ok G (d + 1) mX10_step P 0 [some (.ref v0), some (.int v1), some (.int v2)] [] i r := by
  refine ok_iload_n 1 dX10_step_0 rfl rfl ?_
  refine ok_iconst 0 dX10_step_1 (by decide) ?_
  refine ok_aload_n 0 dX10_step_2 rfl rfl ?_
  obtain ⟨c1, h⟩ := h
  refine ok_geti 10 6 dX10_step_3 f10_123 rfl c1 ?_
  refine ok_iconst 1 dX10_step_6 (by decide) ?_
  refine ok_isub dX10_step_7 ?_
  refine ok_cSi (rest := []) o_rc [.int v1, .int 0, .int ((i v0 6) - 1)] dX10_step_8 k10_89 rfl rfl (Nat.le_of_ble_eq_true rfl) h (fun x2 i2 h => ?_)
  refine ok_if_ne 30 dX10_step_11 (by decide) (fun z3 => ?_) (fun z3 => ?_)
  · replace h := h.1 z3
    refine ok_iconst 0 dX10_step_30 (by decide) ?_
    refine ok_goto 45 dX10_step_31 (by decide) ?_
    exact ok_iret .int dX10_step_45 rfl rfl h
  · replace h := h.2 z3
    refine ok_iload_n 2 dX10_step_14 rfl rfl ?_
    refine ok_iconst 0 dX10_step_15 (by decide) ?_
    refine ok_aload_n 0 dX10_step_16 rfl rfl ?_
    refine ok_getr 10 15 dX10_step_17 f10_47 rfl c1 ?_
    refine ok_iload_n 1 dX10_step_20 rfl rfl ?_
    obtain ⟨c4, h⟩ := h
    obtain ⟨c5, h⟩ := h
    refine ok_iald dX10_step_21 c4 c5 ?_
    refine ok_iconst 1 dX10_step_22 (by decide) ?_
    refine ok_isub dX10_step_23 ?_
    refine ok_cSi (rest := []) o_rc [.int v2, .int 0, .int ((i2 (r v0 15) v1.toNatClampNeg) - 1)] dX10_step_24 k10_89 rfl rfl (Nat.le_of_ble_eq_true rfl) h (fun x6 i6 h => ?_)
    obtain ⟨hs, h⟩ := h
    have k11 : ∀ x10 : Int32, x10 = (if x6 = 0 then (i6 (r v0 16) ((40 * v1) + v2).toNatClampNeg) else 0) → Ok G (d + 1) mX10_step P 45 [none, none, none] [.int x10] i6 r := by
      intro x10 ex10
      replace h := h x10 ex10
      exact ok_iret .int dX10_step_45 rfl rfl h
    clear h
    refine ok_if_eq 34 dX10_step_27 (by decide) (fun z7 => ?_) (fun z7 => ?_)
    · replace hs := hs.1 z7
      refine ok_aload_n 0 dX10_step_34 rfl rfl ?_
      refine ok_getr 10 16 dX10_step_35 f10_50 rfl c1 ?_
      refine ok_bipush 40 dX10_step_38 (by decide) ?_
      refine ok_iload_n 1 dX10_step_40 rfl rfl ?_
      refine ok_imul dX10_step_41 ?_
      refine ok_iload_n 2 dX10_step_42 rfl rfl ?_
      refine ok_iadd dX10_step_43 ?_
      obtain ⟨c8, hs⟩  := hs
      obtain ⟨c9, hs⟩  := hs
      refine ok_iald dX10_step_44 c8 c9 ?_
      refine ok_wk [none, none, none] trivial ?_
      exact k11 ((i6 (r v0 16) ((40 * v1) + v2).toNatClampNeg)) (by simp only [if_pos z7])
    · replace hs := hs.2 z7
      refine ok_iconst 0 dX10_step_30 (by decide) ?_
      refine ok_goto 45 dX10_step_31 (by decide) ?_
      refine ok_wk [none, none, none] trivial ?_
      exact k11 (0) (by simp only [if_neg z7])


set_option maxRecDepth 100000 in
set_option maxHeartbeats 4000000 in
theorem sX1_stepAt_0 {G : o_G} {d : Nat} {P : o_P} {i : o_I} {r : o_R} (v0 : Nat) (v1 : Nat) (v2 : Nat) (v3 : Int32) (v4 : Int32)
    (h : ((¬ v3 = 0 → ((¬ v4 = 0 → o_O G v0 1 ∧ o_Y G (r v0 0) 3 ∧ vp_in v3 (o_len G (r v0 0)) ∧ o_Y G (r (r v0 0) v3.toNatClampNeg) 1 ∧ vp_in v4 (o_len G (r (r v0 0) v3.toNatClampNeg)) ∧ vp_in (v3 - 1) (o_len G (r v0 0)) ∧ o_Y G (r (r v0 0) (v3 - 1).toNatClampNeg) 1 ∧ vp_in (v4 - 1) (o_len G (r (r v0 0) (v3 - 1).toNatClampNeg)) ∧ o_O G v1 5 ∧ SpI G d mX1_change [.ref v1, .ref v2, .int (i v1 4), .int v3, .int v4] (fun x12 i12 => ((¬ (i (r (r v0 0) v3.toNatClampNeg) v4.toNatClampNeg) = ((i (r (r v0 0) (v3 - 1).toNatClampNeg) (v4 - 1).toNatClampNeg) + x12) → vp_in (v4 - 1) (o_len G (r (r v0 0) v3.toNatClampNeg)) ∧ (∀ x16 : Int32, x16 = (if (i12 (r (r v0 0) v3.toNatClampNeg) v4.toNatClampNeg) = ((i12 (r (r v0 0) v3.toNatClampNeg) (v4 - 1).toNatClampNeg) + 1) then 2 else 3) → P (some (.int x16)) i12 r)) ∧ ((i (r (r v0 0) v3.toNatClampNeg) v4.toNatClampNeg) = ((i (r (r v0 0) (v3 - 1).toNatClampNeg) (v4 - 1).toNatClampNeg) + x12) → P (some (.int 1)) i12 r))) i r) ∧ (v4 = 0 → P (some (.int 3)) i r))) ∧ (v3 = 0 → P (some (.int 2)) i r))) :
    Ok G (d + 1) mX1_stepAt P 0 [some (.ref v0), some (.ref v1), some (.ref v2), some (.int v3), some (.int v4)] [] i r := by
  refine ok_iload_n 3 dX1_stepAt_0 rfl rfl ?_
  refine ok_if_ne 6 dX1_stepAt_1 (by decide) (fun z1 => ?_) (fun z1 => ?_)
  · replace h := h.1 z1
    refine ok_iload dX1_stepAt_6 rfl ?_
    refine ok_if_ne 13 dX1_stepAt_8 (by decide) (fun z2 => ?_) (fun z2 => ?_)
    · replace h := h.1 z2
      refine ok_aload_n 0 dX1_stepAt_13 rfl rfl ?_
      obtain ⟨c3, h⟩ := h
      refine ok_getr 1 0 dX1_stepAt_14 f1_11 rfl c3 ?_
      refine ok_iload_n 3 dX1_stepAt_17 rfl rfl ?_
      obtain ⟨c4, h⟩ := h
      obtain ⟨c5, h⟩ := h
      refine ok_ald3 dX1_stepAt_18 c4 c5 ?_
      refine ok_iload dX1_stepAt_19 rfl ?_
      obtain ⟨c6, h⟩ := h
      obtain ⟨c7, h⟩ := h
      refine ok_iald dX1_stepAt_21 c6 c7 ?_
      refine ok_aload_n 0 dX1_stepAt_22 rfl rfl ?_
      refine ok_getr 1 0 dX1_stepAt_23 f1_11 rfl c3 ?_
      refine ok_iload_n 3 dX1_stepAt_26 rfl rfl ?_
      refine ok_iconst 1 dX1_stepAt_27 (by decide) ?_
      refine ok_isub dX1_stepAt_28 ?_
      obtain ⟨c8, h⟩ := h
      refine ok_ald3 dX1_stepAt_29 c4 c8 ?_
      refine ok_iload dX1_stepAt_30 rfl ?_
      refine ok_iconst 1 dX1_stepAt_32 (by decide) ?_
      refine ok_isub dX1_stepAt_33 ?_
      obtain ⟨c9, h⟩ := h
      obtain ⟨c10, h⟩ := h
      refine ok_iald dX1_stepAt_34 c9 c10 ?_
      refine ok_aload_n 1 dX1_stepAt_35 rfl rfl ?_
      refine ok_aload_n 2 dX1_stepAt_36 rfl rfl ?_
      refine ok_aload_n 1 dX1_stepAt_37 rfl rfl ?_
      obtain ⟨c11, h⟩ := h
      refine ok_geti 5 4 dX1_stepAt_38 f1_57 rfl c11 ?_
      refine ok_iload_n 3 dX1_stepAt_41 rfl rfl ?_
      refine ok_iload dX1_stepAt_42 rfl ?_
      refine ok_cSi (rest := [.int (i (r (r v0 0) (v3 - 1).toNatClampNeg) (v4 - 1).toNatClampNeg), .int (i (r (r v0 0) v3.toNatClampNeg) v4.toNatClampNeg)]) o_rc [.ref v1, .ref v2, .int (i v1 4), .int v3, .int v4] dX1_stepAt_44 k1_100 rfl rfl (Nat.le_of_ble_eq_true rfl) h (fun x12 i12 h => ?_)
      refine ok_iadd dX1_stepAt_47 ?_
      refine ok_ic_ne 53 dX1_stepAt_48 (by decide) (fun z13 => ?_) (fun z13 => ?_)
      · replace h := h.1 z13
        refine ok_aload_n 0 dX1_stepAt_53 rfl rfl ?_
        refine ok_getr 1 0 dX1_stepAt_54 f1_11 rfl c3 ?_
        refine ok_iload_n 3 dX1_stepAt_57 rfl rfl ?_
        refine ok_ald3 dX1_stepAt_58 c4 c5 ?_
        refine ok_iload dX1_stepAt_59 rfl ?_
        refine ok_iald dX1_stepAt_61 c6 c7 ?_
        refine ok_aload_n 0 dX1_stepAt_62 rfl rfl ?_
        refine ok_getr 1 0 dX1_stepAt_63 f1_11 rfl c3 ?_
        refine ok_iload_n 3 dX1_stepAt_66 rfl rfl ?_
        refine ok_ald3 dX1_stepAt_67 c4 c5 ?_
        refine ok_iload dX1_stepAt_68 rfl ?_
        refine ok_iconst 1 dX1_stepAt_70 (by decide) ?_
        refine ok_isub dX1_stepAt_71 ?_
        obtain ⟨c14, h⟩ := h
        refine ok_iald dX1_stepAt_72 c6 c14 ?_
        refine ok_iconst 1 dX1_stepAt_73 (by decide) ?_
        refine ok_iadd dX1_stepAt_74 ?_
        have k17 : ∀ x16 : Int32, x16 = (if (i12 (r (r v0 0) v3.toNatClampNeg) v4.toNatClampNeg) = ((i12 (r (r v0 0) v3.toNatClampNeg) (v4 - 1).toNatClampNeg) + 1) then 2 else 3) → Ok G (d + 1) mX1_stepAt P 83 [none, none, none, none, none] [.int x16] i12 r := by
          intro x16 ex16
          replace h := h x16 ex16
          exact ok_iret .int dX1_stepAt_83 rfl rfl h
        clear h
        refine ok_ic_ne 82 dX1_stepAt_75 (by decide) (fun z15 => ?_) (fun z15 => ?_)
        · refine ok_iconst 3 dX1_stepAt_82 (by decide) ?_
          refine ok_wk [none, none, none, none, none] trivial ?_
          exact k17 (3) (by simp only [if_neg z15])
        · refine ok_iconst 2 dX1_stepAt_78 (by decide) ?_
          refine ok_goto 83 dX1_stepAt_79 (by decide) ?_
          refine ok_wk [none, none, none, none, none] trivial ?_
          exact k17 (2) (by simp only [if_pos z15])
      · replace h := h.2 z13
        refine ok_iconst 1 dX1_stepAt_51 (by decide) ?_
        exact ok_iret .int dX1_stepAt_52 rfl rfl h
    · replace h := h.2 z2
      refine ok_iconst 3 dX1_stepAt_11 (by decide) ?_
      exact ok_iret .int dX1_stepAt_12 rfl rfl h
  · replace h := h.2 z1
    refine ok_iconst 2 dX1_stepAt_4 (by decide) ?_
    exact ok_iret .int dX1_stepAt_5 rfl rfl h

set_option maxRecDepth 100000 in
set_option maxHeartbeats 4000000 in
theorem sX1_writeScript_0 {G : o_G} {d : Nat} {P : o_P} {i : o_I} {r : o_R} (v0 : Nat) (v1 : Nat) (v2 : Nat)
    (h : o_O G v1 5 ∧ o_O G v0 1 ∧ SpI G d mX1_fill [.ref v0, .ref v1, .ref v2, .int (i v1 4)] (fun x3 i3 => ∀ x4 : Int32, x4 = (i3 v1 2) → ∀ x5 : Int32, x5 = ((i3 v1 5) - (i3 v1 4)) → Ok G (d + 1) mX1_writeScript P 27 [some (.ref v0), some (.ref v1), some (.ref v2), some (.int x4), some (.int x5), none] [] i3 r) i r) :
    Ok G (d + 1) mX1_writeScript P 0 [some (.ref v0), some (.ref v1), some (.ref v2), none, none, none] [] i r := by
  refine ok_aload_n 0 dX1_writeScript_0 rfl rfl ?_
  refine ok_aload_n 1 dX1_writeScript_1 rfl rfl ?_
  refine ok_aload_n 2 dX1_writeScript_2 rfl rfl ?_
  refine ok_aload_n 1 dX1_writeScript_3 rfl rfl ?_
  obtain ⟨c1, h⟩ := h
  refine ok_geti 5 4 dX1_writeScript_4 f1_57 rfl c1 ?_
  obtain ⟨c2, h⟩ := h
  refine ok_cVi (rest := []) o_rc 1 [.ref v1, .ref v2, .int (i v1 4)] dX1_writeScript_7 k1_72 c2 rfl rfl (Nat.le_of_ble_eq_true rfl) h (fun x3 i3 h => ?_)
  refine ok_pop dX1_writeScript_10 rfl ?_
  refine ok_aload_n 1 dX1_writeScript_11 rfl rfl ?_
  refine ok_geti 5 2 dX1_writeScript_12 f1_76 rfl c1 ?_
  refine ok_topi (fun x4 ex4 => ?_)
  replace h := h x4 ex4
  refine ok_istore_n 3 dX1_writeScript_15 rfl (by decide) [some (.ref v0), some (.ref v1), some (.ref v2), some (.int x4), none, none] rfl ?_
  refine ok_aload_n 1 dX1_writeScript_16 rfl rfl ?_
  refine ok_geti 5 5 dX1_writeScript_17 f1_58 rfl c1 ?_
  refine ok_aload_n 1 dX1_writeScript_20 rfl rfl ?_
  refine ok_geti 5 4 dX1_writeScript_21 f1_57 rfl c1 ?_
  refine ok_isub dX1_writeScript_24 ?_
  refine ok_topi (fun x5 ex5 => ?_)
  replace h := h x5 ex5
  refine ok_istore dX1_writeScript_25 (by decide) [some (.ref v0), some (.ref v1), some (.ref v2), some (.int x4), some (.int x5), none] rfl ?_
  exact h

set_option maxRecDepth 100000 in
set_option maxHeartbeats 4000000 in
theorem sX1_writeScript_27 {G : o_G} {d : Nat} {P : o_P} {i : o_I} {r : o_R} (v0 : Nat) (v1 : Nat) (v2 : Nat) (v3 : Int32) (v4 : Int32)
    (h : o_O G v1 5 ∧ ((19 ≤ (i v1 9) → P none i r) ∧ (¬ 19 ≤ (i v1 9) → ((0 < v3 → Ok G (d + 1) mX1_writeScript P 45 [some (.ref v0), some (.ref v1), some (.ref v2), some (.int v3), some (.int v4), none] [] i r) ∧ (¬ 0 < v3 → ((v4 ≤ 0 → P none i r) ∧ (¬ v4 ≤ 0 → Ok G (d + 1) mX1_writeScript P 45 [some (.ref v0), some (.ref v1), some (.ref v2), some (.int v3), some (.int v4), none] [] i r))))))) :
    Ok G (d + 1) mX1_writeScript P 27 [some (.ref v0), some (.ref v1), some (.ref v2), some (.int v3), some (.int v4), none] [] i r := by
  refine ok_aload_n 1 dX1_writeScript_27 rfl rfl ?_
  obtain ⟨c1, h⟩ := h
  refine ok_geti 5 9 dX1_writeScript_28 f1_54 rfl c1 ?_
  refine ok_bipush 19 dX1_writeScript_31 (by decide) ?_
  refine ok_ic_ge 98 dX1_writeScript_33 (by decide) (fun z2 => ?_) (fun z2 => ?_)
  · replace h := h.1 z2
    exact ok_vret dX1_writeScript_98 rfl h
  · replace h := h.2 z2
    refine ok_iload_n 3 dX1_writeScript_36 rfl rfl ?_
    refine ok_if_gt 45 dX1_writeScript_37 (by decide) (fun z3 => ?_) (fun z3 => ?_)
    · replace h := h.1 z3
      exact h
    · replace h := h.2 z3
      refine ok_iload dX1_writeScript_40 rfl ?_
      refine ok_if_le 98 dX1_writeScript_42 (by decide) (fun z4 => ?_) (fun z4 => ?_)
      · replace h := h.1 z4
        exact ok_vret dX1_writeScript_98 rfl h
      · replace h := h.2 z4
        exact h

set_option maxRecDepth 100000 in
set_option maxHeartbeats 4000000 in
theorem sX1_writeScript_45 {G : o_G} {d : Nat} {P : o_P} {i : o_I} {r : o_R} (v0 : Nat) (v1 : Nat) (v2 : Nat) (v3 : Int32) (v4 : Int32)
    (h : o_O G v0 1 ∧ SpI G d mX1_stepAt [.ref v0, .ref v1, .ref v2, .int v3, .int v4] (fun x2 i2 => o_O G v1 5 ∧ o_Y G (r v1 8) 1 ∧ vp_in (i2 v1 9) (o_len G (r v1 8)) ∧ ∀ i6 : o_I, i6 = o_up i2 (r v1 8) (i2 v1 9).toNatClampNeg x2 → ∀ i7 : o_I, i7 = o_up i6 v1 9 ((i6 v1 9) + 1) → (∀ x10 : Int32, x10 = (if x2 = 2 then v3 else (v3 + (-1))) → (∀ x13 : Int32, x13 = (if x2 = 3 then v4 else (v4 + (-1))) → Ok G (d + 1) mX1_writeScript P 27 [some (.ref v0), some (.ref v1), some (.ref v2), some (.int x10), some (.int x13), none] [] i7 r))) i r) :
    Ok G (d + 1) mX1_writeScript P 45 [some (.ref v0), some (.ref v1), some (.ref v2), some (.int v3), some (.int v4), none] [] i r := by
  refine ok_aload_n 0 dX1_writeScript_45 rfl rfl ?_
  refine ok_aload_n 1 dX1_writeScript_46 rfl rfl ?_
  refine ok_aload_n 2 dX1_writeScript_47 rfl rfl ?_
  refine ok_iload_n 3 dX1_writeScript_48 rfl rfl ?_
  refine ok_iload dX1_writeScript_49 rfl ?_
  obtain ⟨c1, h⟩ := h
  refine ok_cVi (rest := []) o_rc 1 [.ref v1, .ref v2, .int v3, .int v4] dX1_writeScript_51 k1_110 c1 rfl rfl (Nat.le_of_ble_eq_true rfl) h (fun x2 i2 h => ?_)
  refine ok_istore dX1_writeScript_54 (by decide) [some (.ref v0), some (.ref v1), some (.ref v2), some (.int v3), some (.int v4), some (.int x2)] rfl ?_
  refine ok_aload_n 1 dX1_writeScript_56 rfl rfl ?_
  obtain ⟨c3, h⟩ := h
  refine ok_getr 5 8 dX1_writeScript_57 f1_113 rfl c3 ?_
  refine ok_aload_n 1 dX1_writeScript_60 rfl rfl ?_
  refine ok_geti 5 9 dX1_writeScript_61 f1_54 rfl c3 ?_
  refine ok_iload dX1_writeScript_64 rfl ?_
  obtain ⟨c4, h⟩ := h
  obtain ⟨c5, h⟩ := h
  refine ok_iast dX1_writeScript_66 c4 c5 ?_
  refine ok_nmi (fun i6 ei6 => ?_)
  replace h := h i6 ei6
  refine ok_aload_n 1 dX1_writeScript_67 rfl rfl ?_
  refine ok_dup dX1_writeScript_68 rfl ?_
  refine ok_geti 5 9 dX1_writeScript_69 f1_54 rfl c3 ?_
  refine ok_iconst 1 dX1_writeScript_72 (by decide) ?_
  refine ok_iadd dX1_writeScript_73 ?_
  refine ok_puti 5 9 .int dX1_writeScript_74 f1_54 rfl rfl (by decide +kernel) rfl rfl c3 ?_
  refine ok_nmi (fun i7 ei7 => ?_)
  replace h := h i7 ei7
  refine ok_iload dX1_writeScript_77 rfl ?_
  refine ok_iconst 2 dX1_writeScript_79 (by decide) ?_
  have k15 : ∀ x10 : Int32, x10 = (if x2 = 2 then v3 else (v3 + (-1))) → Ok G (d + 1) mX1_writeScript P 86 [some (.ref v0), some (.ref v1), some (.ref v2), some (.int x10), some (.int v4), some (.int x2)] [] i7 r := by
    intro x10 ex10
    replace h := h x10 ex10
    refine ok_iload dX1_writeScript_86 rfl ?_
    refine ok_iconst 3 dX1_writeScript_88 (by decide) ?_
    have k14 : ∀ x13 : Int32, x13 = (if x2 = 3 then v4 else (v4 + (-1))) → Ok G (d + 1) mX1_writeScript P 95 [some (.ref v0), some (.ref v1), some (.ref v2), some (.int x10), some (.int x13), none] [] i7 r := by
      intro x13 ex13
      replace h := h x13 ex13
      refine ok_goto 27 dX1_writeScript_95 (by decide) ?_
      exact h
    clear h
    refine ok_ic_eq 95 dX1_writeScript_89 (by decide) (fun z11 => ?_) (fun z11 => ?_)
    · refine ok_wk [some (.ref v0), some (.ref v1), some (.ref v2), some (.int x10), some (.int v4), none] ⟨rfl, rfl, rfl, rfl, rfl, trivial⟩ ?_
      exact k14 (v4) (by simp only [if_pos z11])
    · refine ok_iinc (-1) (v4 + (-1)) dX1_writeScript_92 rfl (by decide) rfl (by decide) [some (.ref v0), some (.ref v1), some (.ref v2), some (.int x10), some (.int (v4 + (-1))), some (.int x2)] rfl ?_
      refine ok_wk [some (.ref v0), some (.ref v1), some (.ref v2), some (.int x10), some (.int (v4 + (-1))), none] ⟨rfl, rfl, rfl, rfl, rfl, trivial⟩ ?_
      exact k14 ((v4 + (-1))) (by simp only [if_neg z11])
  clear h
  refine ok_ic_eq 86 dX1_writeScript_80 (by decide) (fun z8 => ?_) (fun z8 => ?_)
  · exact k15 (v3) (by simp only [if_pos z8])
  · refine ok_iinc (-1) (v3 + (-1)) dX1_writeScript_83 rfl (by decide) rfl (by decide) [some (.ref v0), some (.ref v1), some (.ref v2), some (.int (v3 + (-1))), some (.int v4), some (.int x2)] rfl ?_
    exact k15 ((v3 + (-1))) (by simp only [if_neg z8])

set_option maxRecDepth 100000 in
set_option maxHeartbeats 4000000 in
theorem sX2_addAllele_0 {G : o_G} {d : Nat} {P : o_P} {i : o_I} {r : o_R} (v0 : Nat) (v1 : Nat) (v2 : Int32)
    (h : o_O G v0 2 ∧ o_Y G (r v0 0) 1 ∧ vp_in (i v0 2) (o_len G (r v0 0)) ∧ ∀ i4 : o_I, i4 = o_up i (r v0 0) (i v0 2).toNatClampNeg v2 → o_O G v1 7 ∧ SpI G d mX7_countOf [.ref v1, .int v2] (fun x6 i6 => o_Y G (r v0 1) 1 ∧ vp_in (i4 v0 2) (o_len G (r v0 1)) ∧ ∀ i9 : o_I, i9 = o_up i6 (r v0 1) (i4 v0 2).toNatClampNeg x6 → ∀ i10 : o_I, i10 = o_up i9 v0 2 ((i9 v0 2) + 1) → P none i10 r) i4 r) :
    Ok G (d + 1) mX2_addAllele P 0 [some (.ref v0), some (.ref v1), some (.int v2)] [] i r := by
  refine ok_aload_n 0 dX2_addAllele_0 rfl rfl ?_
  obtain ⟨c1, h⟩ := h
  refine ok_getr 2 0 dX2_addAllele_1 f2_11 rfl c1 ?_
  refine ok_aload_n 0 dX2_addAllele_4 rfl rfl ?_
  refine ok_geti 2 2 dX2_addAllele_5 f2_18 rfl c1 ?_
  refine ok_iload_n 2 dX2_addAllele_8 rfl rfl ?_
  obtain ⟨c2, h⟩ := h
  obtain ⟨c3, h⟩ := h
  refine ok_iast dX2_addAllele_9 c2 c3 ?_
  refine ok_nmi (fun i4 ei4 => ?_)
  replace h := h i4 ei4
  refine ok_aload_n 0 dX2_addAllele_10 rfl rfl ?_
  refine ok_getr 2 1 dX2_addAllele_11 f2_15 rfl c1 ?_
  refine ok_aload_n 0 dX2_addAllele_14 rfl rfl ?_
  refine ok_geti 2 2 dX2_addAllele_15 f2_18 rfl c1 ?_
  refine ok_aload_n 1 dX2_addAllele_18 rfl rfl ?_
  refine ok_iload_n 2 dX2_addAllele_19 rfl rfl ?_
  obtain ⟨c5, h⟩ := h
  refine ok_cVi (rest := [.int (i4 v0 2), .ref (r v0 1)]) o_rc 7 [.int v2] dX2_addAllele_20 k2_57 c5 rfl rfl (Nat.le_of_ble_eq_true rfl) h (fun x6 i6 h => ?_)
  obtain ⟨c7, h⟩ := h
  obtain ⟨c8, h⟩ := h
  refine ok_iast dX2_addAllele_23 c7 c8 ?_
  refine ok_nmi (fun i9 ei9 => ?_)
  replace h := h i9 ei9
  refine ok_aload_n 0 dX2_addAllele_24 rfl rfl ?_
  refine ok_dup dX2_addAllele_25 rfl ?_
  refine ok_geti 2 2 dX2_addAllele_26 f2_18 rfl c1 ?_
  refine ok_iconst 1 dX2_addAllele_29 (by decide) ?_
  refine ok_iadd dX2_addAllele_30 ?_
  refine ok_puti 2 2 .int dX2_addAllele_31 f2_18 rfl rfl (by decide +kernel) rfl rfl c1 ?_
  refine ok_nmi (fun i10 ei10 => ?_)
  replace h := h i10 ei10
  exact ok_vret dX2_addAllele_34 rfl h

set_option maxRecDepth 100000 in
set_option maxHeartbeats 4000000 in
theorem sX2_addMostSeen_0 {G : o_G} {d : Nat} {P : o_P} {i : o_I} {r : o_R} (v0 : Nat) (v1 : Nat)
    (h : Ok G (d + 1) mX2_addMostSeen P 7 [some (.ref v0), some (.ref v1), some (.int (-1)), some (.int 0), some (.int 0), none, none] [] i r) :
    Ok G (d + 1) mX2_addMostSeen P 0 [some (.ref v0), some (.ref v1), none, none, none, none, none] [] i r := by
  refine ok_iconst (-1) dX2_addMostSeen_0 (by decide) ?_
  refine ok_istore_n 2 dX2_addMostSeen_1 rfl (by decide) [some (.ref v0), some (.ref v1), some (.int (-1)), none, none, none, none] rfl ?_
  refine ok_iconst 0 dX2_addMostSeen_2 (by decide) ?_
  refine ok_istore_n 3 dX2_addMostSeen_3 rfl (by decide) [some (.ref v0), some (.ref v1), some (.int (-1)), some (.int 0), none, none, none] rfl ?_
  refine ok_iconst 0 dX2_addMostSeen_4 (by decide) ?_
  refine ok_istore dX2_addMostSeen_5 (by decide) [some (.ref v0), some (.ref v1), some (.int (-1)), some (.int 0), some (.int 0), none, none] rfl ?_
  exact h

set_option maxRecDepth 100000 in
set_option maxHeartbeats 4000000 in
theorem sX2_addMostSeen_7 {G : o_G} {d : Nat} {P : o_P} {i : o_I} {r : o_R} (v0 : Nat) (v1 : Nat) (v2 : Int32) (v3 : Int32) (v4 : Int32)
    (h : o_O G v1 7 ∧ (((i v1 2) ≤ v4 → ((v2 = (-1) → P none i r) ∧ (¬ v2 = (-1) → o_O G v0 2 ∧ SpV G d mX2_addAllele [.ref v0, .ref v1, .int v2] (fun i5 => P none i5 r) i r))) ∧ (¬ (i v1 2) ≤ v4 → o_Y G (r v1 0) 1 ∧ vp_in v4 (o_len G (r v1 0)) ∧ ∀ x8 : Int32, x8 = (i (r v1 0) v4.toNatClampNeg) → SpI G d mX7_countOf [.ref v1, .int x8] (fun x9 i9 => o_O G v0 2 ∧ SpI G d mX2_isAllele [.ref v0, .int x8] (fun x11 i11 => (∀ x16 : Int32, x16 = (if x11 = 0 then (if v3 < x9 then x8 else (if x9 = v3 then (if v2 ≤ x8 then v2 else x8) else v2)) else v2) → ∀ x17 : Int32, x17 = (if x11 = 0 then (if v3 < x9 then x9 else (if x9 = v3 then (if v2 ≤ x8 then v3 else x9) else v3)) else v3) → ∀ x18 : Int32, x18 = v4 + 1 → Ok G (d + 1) mX2_addMostSeen P 7 [some (.ref v0), some (.ref v1), some (.int x16), some (.int x17), some (.int x18), none, none] [] i11 r)) i9 r) i r))) :
    Ok G (d + 1) mX2_addMostSeen P 7 [some (.ref v0), some (.ref v1), some (.int v2), some (.int v3), some (.int v4), none, none] [] i r := by
  refine ok_iload dX2_addMostSeen_7 rfl ?_
  refine ok_aload_n 1 dX2_addMostSeen_9 rfl rfl ?_
  obtain ⟨c1, h⟩ := h
  refine ok_geti 7 2 dX2_addMostSeen_10 f2_37 rfl c1 ?_
  refine ok_ic_ge 72 dX2_addMostSeen_13 (by decide) (fun z2 => ?_) (fun z2 => ?_)
  · replace h := h.1 z2
    refine ok_iload_n 2 dX2_addMostSeen_72 rfl rfl ?_
    refine ok_iconst (-1) dX2_addMostSeen_73 (by decide) ?_
    refine ok_ic_eq 83 dX2_addMostSeen_74 (by decide) (fun z3 => ?_) (fun z3 => ?_)
    · replace h := h.1 z3
      exact ok_vret dX2_addMostSeen_83 rfl h
    · replace h := h.2 z3
      refine ok_aload_n 0 dX2_addMostSeen_77 rfl rfl ?_
      refine ok_aload_n 1 dX2_addMostSeen_78 rfl rfl ?_
      refine ok_iload_n 2 dX2_addMostSeen_79 rfl rfl ?_
      obtain ⟨c4, h⟩ := h
      refine ok_cVv (rest := []) o_rc 2 [.ref v1, .int v2] dX2_addMostSeen_80 k2_42 c4 rfl rfl (Nat.le_of_ble_eq_true rfl) h (fun i5 h => ?_)
      exact ok_vret dX2_addMostSeen_83 rfl h
  · replace h := h.2 z2
    refine ok_aload_n 1 dX2_addMostSeen_16 rfl rfl ?_
    refine ok_getr 7 0 dX2_addMostSeen_17 f2_61 rfl c1 ?_
    refine ok_iload dX2_addMostSeen_20 rfl ?_
    obtain ⟨c6, h⟩ := h
    obtain ⟨c7, h⟩ := h
    refine ok_iald dX2_addMostSeen_22 c6 c7 ?_
    refine ok_topi (fun x8 ex8 => ?_)
    replace h := h x8 ex8
    refine ok_istore dX2_addMostSeen_23 (by decide) [some (.ref v0), some (.ref v1), some (.int v2), some (.int v3), some (.int v4), some (.int x8), none] rfl ?_
    refine ok_aload_n 1 dX2_addMostSeen_25 rfl rfl ?_
    refine ok_iload dX2_addMostSeen_26 rfl ?_
    refine ok_cVi (rest := []) o_rc 7 [.int x8] dX2_addMostSeen_28 k2_57 c1 rfl rfl (Nat.le_of_ble_eq_true rfl) h (fun x9 i9 h => ?_)
    refine ok_istore dX2_addMostSeen_31 (by decide) [some (.ref v0), some (.ref v1), some (.int v2), some (.int v3), some (.int v4), some (.int x8), some (.int x9)] rfl ?_
    refine ok_aload_n 0 dX2_addMostSeen_33 rfl rfl ?_
    refine ok_iload dX2_addMostSeen_34 rfl ?_
    obtain ⟨c10, h⟩ := h
    refine ok_cVi (rest := []) o_rc 2 [.int x8] dX2_addMostSeen_36 k2_64 c10 rfl rfl (Nat.le_of_ble_eq_true rfl) h (fun x11 i11 h => ?_)
    have k19 : ∀ x16 : Int32, x16 = (if x11 = 0 then (if v3 < x9 then x8 else (if x9 = v3 then (if v2 ≤ x8 then v2 else x8) else v2)) else v2) → ∀ x17 : Int32, x17 = (if x11 = 0 then (if v3 < x9 then x9 else (if x9 = v3 then (if v2 ≤ x8 then v3 else x9) else v3)) else v3) → Ok G (d + 1) mX2_addMostSeen P 66 [some (.ref v0), some (.ref v1), some (.int x16), some (.int x17), some (.int v4), none, none] [] i11 r := by
      intro x16 ex16
      replace h := h x16 ex16
      intro x17 ex17
      replace h := h x17 ex17
      refine ok_eqi (v4 + 1) (fun x18 ex18 => ?_)
      replace h := h x18 ex18
      refine ok_iinc 1 x18 dX2_addMostSeen_66 rfl (by decide) ex18 (by decide) [some (.ref v0), some (.ref v1), some (.int x16), some (.int x17), some (.int x18), none, none] rfl ?_
      refine ok_goto 7 dX2_addMostSeen_69 (by decide) ?_
      exact h
    clear h
    refine ok_if_ne 66 dX2_addMostSeen_39 (by decide) (fun z12 => ?_) (fun z12 => ?_)
    · refine ok_wk [some (.ref v0), some (.ref v1), some (.int v2), some (.int v3), some (.int v4), none, none] ⟨rfl, rfl, rfl, rfl, rfl, trivial⟩ ?_
      exact k19 (v2) (by simp only [if_neg z12]) (v3) (by simp only [if_neg z12])
    · refine ok_iload dX2_addMostSeen_42 rfl ?_
      refine ok_iload_n 3 dX2_addMostSeen_44 rfl rfl ?_
      refine ok_ic_gt 60 dX2_addMostSeen_45 (by decide) (fun z13 => ?_) (fun z13 => ?_)
      · refine ok_iload dX2_addMostSeen_60 rfl ?_
        refine ok_istore_n 2 dX2_addMostSeen_62 rfl (by decide) [some (.ref v0), some (.ref v1), some (.int x8), some (.int v3), some (.int v4), some (.int x8), some (.int x9)] rfl ?_
        refine ok_iload dX2_addMostSeen_63 rfl ?_
        refine ok_istore_n 3 dX2_addMostSeen_65 rfl (by decide) [some (.ref v0), some (.ref v1), some (.int x8), some (.int x9), some (.int v4), some (.int x8), some (.int x9)] rfl ?_
        refine ok_wk [some (.ref v0), some (.ref v1), some (.int x8), some (.int x9), some (.int v4), none, none] ⟨rfl, rfl, rfl, rfl, rfl, trivial⟩ ?_
        exact k19 (x8) (by simp only [if_pos z12, if_pos z13]) (x9) (by simp only [if_pos z12, if_pos z13])
      · refine ok_iload dX2_addMostSeen_48 rfl ?_
        refine ok_iload_n 3 dX2_addMostSeen_50 rfl rfl ?_
        refine ok_ic_ne 66 dX2_addMostSeen_51 (by decide) (fun z14 => ?_) (fun z14 => ?_)
        · refine ok_wk [some (.ref v0), some (.ref v1), some (.int v2), some (.int v3), some (.int v4), none, none] ⟨rfl, rfl, rfl, rfl, rfl, trivial⟩ ?_
          exact k19 (v2) (by simp only [if_pos z12, if_neg z13, if_neg z14]) (v3) (by simp only [if_pos z12, if_neg z13, if_neg z14])
        · refine ok_iload dX2_addMostSeen_54 rfl ?_
          refine ok_iload_n 2 dX2_addMostSeen_56 rfl rfl ?_
          refine ok_ic_ge 66 dX2_addMostSeen_57 (by decide) (fun z15 => ?_) (fun z15 => ?_)
          · refine ok_wk [some (.ref v0), some (.ref v1), some (.int v2), some (.int v3), some (.int v4), none, none] ⟨rfl, rfl, rfl, rfl, rfl, trivial⟩ ?_
            exact k19 (v2) (by simp only [if_pos z12, if_neg z13, if_pos z14, if_pos z15]) (v3) (by simp only [if_pos z12, if_neg z13, if_pos z14, if_pos z15])
          · refine ok_iload dX2_addMostSeen_60 rfl ?_
            refine ok_istore_n 2 dX2_addMostSeen_62 rfl (by decide) [some (.ref v0), some (.ref v1), some (.int x8), some (.int v3), some (.int v4), some (.int x8), some (.int x9)] rfl ?_
            refine ok_iload dX2_addMostSeen_63 rfl ?_
            refine ok_istore_n 3 dX2_addMostSeen_65 rfl (by decide) [some (.ref v0), some (.ref v1), some (.int x8), some (.int x9), some (.int v4), some (.int x8), some (.int x9)] rfl ?_
            refine ok_wk [some (.ref v0), some (.ref v1), some (.int x8), some (.int x9), some (.int v4), none, none] ⟨rfl, rfl, rfl, rfl, rfl, trivial⟩ ?_
            exact k19 (x8) (by simp only [if_pos z12, if_neg z13, if_pos z14, if_neg z15]) (x9) (by simp only [if_pos z12, if_neg z13, if_pos z14, if_neg z15])

set_option maxRecDepth 100000 in
set_option maxHeartbeats 4000000 in
theorem sX2_costOfPair_0 {G : o_G} {d : Nat} {P : o_P} {i : o_I} {r : o_R} (v0 : Int32) (v1 : Int32)
    (h : ((¬ v0 = 0 → (∀ x3 : Int32, x3 = (if v0 = v1 then 30 else 40) → P (some (.int x3)) i r)) ∧ (v0 = 0 → (∀ x6 : Int32, x6 = (if v1 = 0 then 0 else 20) → P (some (.int x6)) i r)))) :
    Ok G (d + 1) mX2_costOfPair P 0 [some (.int v0), some (.int v1)] [] i r := by
  refine ok_iload_n 0 dX2_costOfPair_0 rfl rfl ?_
  refine ok_if_ne 15 dX2_costOfPair_1 (by decide) (fun z1 => ?_) (fun z1 => ?_)
  · replace h := h.1 z1
    refine ok_iload_n 0 dX2_costOfPair_15 rfl rfl ?_
    refine ok_iload_n 1 dX2_costOfPair_16 rfl rfl ?_
    have k4 : ∀ x3 : Int32, x3 = (if v0 = v1 then 30 else 40) → Ok G (d + 1) mX2_costOfPair P 27 [none, none] [.int x3] i r := by
      intro x3 ex3
      replace h := h x3 ex3
      exact ok_iret .int dX2_costOfPair_27 rfl rfl h
    clear h
    refine ok_ic_ne 25 dX2_costOfPair_17 (by decide) (fun z2 => ?_) (fun z2 => ?_)
    · refine ok_bipush 40 dX2_costOfPair_25 (by decide) ?_
      refine ok_wk [none, none] trivial ?_
      exact k4 (40) (by simp only [if_neg z2])
    · refine ok_bipush 30 dX2_costOfPair_20 (by decide) ?_
      refine ok_goto 27 dX2_costOfPair_22 (by decide) ?_
      refine ok_wk [none, none] trivial ?_
      exact k4 (30) (by simp only [if_pos z2])
  · replace h := h.2 z1
    refine ok_iload_n 1 dX2_costOfPair_4 rfl rfl ?_
    have k7 : ∀ x6 : Int32, x6 = (if v1 = 0 then 0 else 20) → Ok G (d + 1) mX2_costOfPair P 14 [none, none] [.int x6] i r := by
      intro x6 ex6
      replace h := h x6 ex6
      exact ok_iret .int dX2_costOfPair_14 rfl rfl h
    clear h
    refine ok_if_ne 12 dX2_costOfPair_5 (by decide) (fun z5 => ?_) (fun z5 => ?_)
    · refine ok_bipush 20 dX2_costOfPair_12 (by decide) ?_
      refine ok_wk [none, none] trivial ?_
      exact k7 (20) (by simp only [if_neg z5])
    · refine ok_iconst 0 dX2_costOfPair_8 (by decide) ?_
      refine ok_goto 14 dX2_costOfPair_9 (by decide) ?_
      refine ok_wk [none, none] trivial ?_
      exact k7 (0) (by simp only [if_pos z5])

set_option maxRecDepth 100000 in
set_option maxHeartbeats 4000000 in
theorem sX2_differs_0 {G : o_G} {d : Nat} {P : o_P} {i : o_I} {r : o_R} (v0 : Nat)
    (h : o_O G v0 2 ∧ (∀ x3 : Int32, x3 = (if (i v0 5) = 0 then 0 else 1) → (x3 = 0 ∨ x3 = 1) ∧ P (some (.int x3)) i r)) :
    Ok G (d + 1) mX2_differs P 0 [some (.ref v0)] [] i r := by
  refine ok_aload_n 0 dX2_differs_0 rfl rfl ?_
  obtain ⟨c1, h⟩ := h
  refine ok_geti 2 5 dX2_differs_1 f2_31 rfl c1 ?_
  have k5 : ∀ x3 : Int32, x3 = (if (i v0 5) = 0 then 0 else 1) → Ok G (d + 1) mX2_differs P 12 [none] [.int x3] i r := by
    intro x3 ex3
    replace h := h x3 ex3
    obtain ⟨c4, h⟩ := h
    exact ok_iret .boolean dX2_differs_12 rfl (o_bool c4).1 h
  clear h
  refine ok_if_eq 11 dX2_differs_4 (by decide) (fun z2 => ?_) (fun z2 => ?_)
  · refine ok_iconst 0 dX2_differs_11 (by decide) ?_
    refine ok_wk [none] trivial ?_
    exact k5 (0) (by simp only [if_pos z2])
  · refine ok_iconst 1 dX2_differs_7 (by decide) ?_
    refine ok_goto 12 dX2_differs_8 (by decide) ?_
    refine ok_wk [none] trivial ?_
    exact k5 (1) (by simp only [if_neg z2])

set_option maxRecDepth 100000 in
set_option maxHeartbeats 4000000 in
theorem sX2_excess_0 {G : o_G} {d : Nat} {P : o_P} {i : o_I} {r : o_R} (v0 : Nat) (v1 : Int32)
    (h : o_O G v0 2 ∧ o_Y G (r v0 3) 1 ∧ vp_in v1 (o_len G (r v0 3)) ∧ vp_in (i v0 5) (o_len G (r v0 3)) ∧ P (some (.int ((i (r v0 3) v1.toNatClampNeg) - (i (r v0 3) (i v0 5).toNatClampNeg)))) i r) :
    Ok G (d + 1) mX2_excess P 0 [some (.ref v0), some (.int v1)] [] i r := by
  refine ok_aload_n 0 dX2_excess_0 rfl rfl ?_
  obtain ⟨c1, h⟩ := h
  refine ok_getr 2 3 dX2_excess_1 f2_25 rfl c1 ?_
  refine ok_iload_n 1 dX2_excess_4 rfl rfl ?_
  obtain ⟨c2, h⟩ := h
  obtain ⟨c3, h⟩ := h
  refine ok_iald dX2_excess_5 c2 c3 ?_
  refine ok_aload_n 0 dX2_excess_6 rfl rfl ?_
  refine ok_getr 2 3 dX2_excess_7 f2_25 rfl c1 ?_
  refine ok_aload_n 0 dX2_excess_10 rfl rfl ?_
  refine ok_geti 2 5 dX2_excess_11 f2_31 rfl c1 ?_
  obtain ⟨c4, h⟩ := h
  refine ok_iald dX2_excess_14 c2 c4 ?_
  refine ok_isub dX2_excess_15 ?_
  exact ok_iret .int dX2_excess_16 rfl rfl h

set_option maxRecDepth 100000 in
set_option maxHeartbeats 4000000 in
theorem sX2_isAllele_0 {G : o_G} {d : Nat} {P : o_P} {i : o_I} {r : o_R} (v0 : Nat) (v1 : Int32)
    (h : Ok G (d + 1) mX2_isAllele P 2 [some (.ref v0), some (.int v1), some (.int 0)] [] i r) :
    Ok G (d + 1) mX2_isAllele P 0 [some (.ref v0), some (.int v1), none] [] i r := by
  refine ok_iconst 0 dX2_isAllele_0 (by decide) ?_
  refine ok_istore_n 2 dX2_isAllele_1 rfl (by decide) [some (.ref v0), some (.int v1), some (.int 0)] rfl ?_
  exact h

set_option maxRecDepth 100000 in
set_option maxHeartbeats 4000000 in
theorem sX2_isAllele_2 {G : o_G} {d : Nat} {P : o_P} {i : o_I} {r : o_R} (v0 : Nat) (v1 : Int32) (v2 : Int32)
    (h : o_O G v0 2 ∧ (((i v0 2) ≤ v2 → P (some (.int 0)) i r) ∧ (¬ (i v0 2) ≤ v2 → o_Y G (r v0 0) 1 ∧ vp_in v2 (o_len G (r v0 0)) ∧ ((¬ (i (r v0 0) v2.toNatClampNeg) = v1 → ∀ x6 : Int32, x6 = v2 + 1 → Ok G (d + 1) mX2_isAllele P 2 [some (.ref v0), some (.int v1), some (.int x6)] [] i r) ∧ ((i (r v0 0) v2.toNatClampNeg) = v1 → P (some (.int 1)) i r))))) :
    Ok G (d + 1) mX2_isAllele P 2 [some (.ref v0), some (.int v1), some (.int v2)] [] i r := by
  refine ok_iload_n 2 dX2_isAllele_2 rfl rfl ?_
  refine ok_aload_n 0 dX2_isAllele_3 rfl rfl ?_
  obtain ⟨c1, h⟩ := h
  refine ok_geti 2 2 dX2_isAllele_4 f2_18 rfl c1 ?_
  refine ok_ic_ge 28 dX2_isAllele_7 (by decide) (fun z2 => ?_) (fun z2 => ?_)
  · replace h := h.1 z2
    refine ok_iconst 0 dX2_isAllele_28 (by decide) ?_
    exact ok_iret .boolean dX2_isAllele_29 rfl rfl h
  · replace h := h.2 z2
    refine ok_aload_n 0 dX2_isAllele_10 rfl rfl ?_
    refine ok_getr 2 0 dX2_isAllele_11 f2_11 rfl c1 ?_
    refine ok_iload_n 2 dX2_isAllele_14 rfl rfl ?_
    obtain ⟨c3, h⟩ := h
    obtain ⟨c4, h⟩ := h
    refine ok_iald dX2_isAllele_15 c3 c4 ?_
    refine ok_iload_n 1 dX2_isAllele_16 rfl rfl ?_
    refine ok_ic_ne 22 dX2_isAllele_17 (by decide) (fun z5 => ?_) (fun z5 => ?_)
    · replace h := h.1 z5
      refine ok_eqi (v2 + 1) (fun x6 ex6 => ?_)
      replace h := h x6 ex6
      refine ok_iinc 1 x6 dX2_isAllele_22 rfl (by decide) ex6 (by decide) [some (.ref v0), some (.int v1), some (.int x6)] rfl ?_
      refine ok_goto 2 dX2_isAllele_25 (by decide) ?_
      exact h
    · replace h := h.2 z5
      refine ok_iconst 1 dX2_isAllele_20 (by decide) ?_
      exact ok_iret .boolean dX2_isAllele_21 rfl rfl h

set_option maxRecDepth 100000 in
set_option maxHeartbeats 4000000 in
theorem sX2_penalty_0 {G : o_G} {d : Nat} {P : o_P} {i : o_I} {r : o_R} (v0 : Nat) (v1 : Nat) (v2 : Int32) (v3 : Int32)
    (h : SpI G d mX2_costOfPair [.int v2, .int v3] (fun x1 i1 => Ok G (d + 1) mX2_penalty P 10 [some (.ref v0), some (.ref v1), some (.int v2), some (.int v3), some (.int x1), some (.int 0), none, none] [] i1 r) i r) :
    Ok G (d + 1) mX2_penalty P 0 [some (.ref v0), some (.ref v1), some (.int v2), some (.int v3), none, none, none, none] [] i r := by
  refine ok_iload_n 2 dX2_penalty_0 rfl rfl ?_
  refine ok_iload_n 3 dX2_penalty_1 rfl rfl ?_
  refine ok_cSi (rest := []) o_rc [.int v2, .int v3] dX2_penalty_2 k2_68 rfl rfl (Nat.le_of_ble_eq_true rfl) h (fun x1 i1 h => ?_)
  refine ok_istore dX2_penalty_5 (by decide) [some (.ref v0), some (.ref v1), some (.int v2), some (.int v3), some (.int x1), none, none, none] rfl ?_
  refine ok_iconst 0 dX2_penalty_7 (by decide) ?_
  refine ok_istore dX2_penalty_8 (by decide) [some (.ref v0), some (.ref v1), some (.int v2), some (.int v3), some (.int x1), some (.int 0), none, none] rfl ?_
  exact h

set_option maxRecDepth 100000 in
set_option maxHeartbeats 4000000 in
theorem sX2_penalty_10 {G : o_G} {d : Nat} {P : o_P} {i : o_I} {r : o_R} (v0 : Nat) (v1 : Nat) (v2 : Int32) (v3 : Int32) (v4 : Int32) (v5 : Int32)
    (h : o_O G v1 7 ∧ (((i v1 2) ≤ v5 → P (some (.int v4)) i r) ∧ (¬ (i v1 2) ≤ v5 → o_Y G (r v1 0) 1 ∧ vp_in v5 (o_len G (r v1 0)) ∧ o_O G v0 2 ∧ o_Y G (r v0 0) 1 ∧ vp_in v2 (o_len G (r v0 0)) ∧ (∀ x9 : Int32, x9 = (if (i (r v1 0) v5.toNatClampNeg) = (i (r v0 0) v2.toNatClampNeg) then 1 else 0) → vp_in v3 (o_len G (r v0 0)) ∧ (∀ x12 : Int32, x12 = (if (i (r v1 0) v5.toNatClampNeg) = (i (r v0 0) v3.toNatClampNeg) then 1 else 0) → ((x9 = x12 → ((¬ x9 = 0 → True) ∧ (x9 = 0 → o_Y G (r v1 1) 1 ∧ vp_in v5 (o_len G (r v1 1)) ∧ True))) ∧ (¬ x9 = x12 → True)) ∧ (∀ x18 : Int32, x18 = (if x9 = x12 then (if x9 = 0 then (v4 + (i (r v1 1) v5.toNatClampNeg)) else v4) else (v4 + 3)) → ∀ x19 : Int32, x19 = v5 + 1 → Ok G (d + 1) mX2_penalty P 10 [some (.ref v0), some (.ref v1), some (.int v2), some (.int v3), some (.int x18), some (.int x19), none, none] [] i r)))))) :
    Ok G (d + 1) mX2_penalty P 10 [some (.ref v0), some (.ref v1), some (.int v2), some (.int v3), some (.int v4), some (.int v5), none, none] [] i r := by
  refine ok_iload dX2_penalty_10 rfl ?_
  refine ok_aload_n 1 dX2_penalty_12 rfl rfl ?_
  obtain ⟨c1, h⟩ := h
  refine ok_geti 7 2 dX2_penalty_13 f2_37 rfl c1 ?_
  refine ok_ic_ge 101 dX2_penalty_16 (by decide) (fun z2 => ?_) (fun z2 => ?_)
  · replace h := h.1 z2
    refine ok_iload dX2_penalty_101 rfl ?_
    exact ok_iret .int dX2_penalty_103 rfl rfl h
  · replace h := h.2 z2
    refine ok_aload_n 1 dX2_penalty_19 rfl rfl ?_
    refine ok_getr 7 0 dX2_penalty_20 f2_61 rfl c1 ?_
    refine ok_iload dX2_penalty_23 rfl ?_
    obtain ⟨c3, h⟩ := h
    obtain ⟨c4, h⟩ := h
    refine ok_iald dX2_penalty_25 c3 c4 ?_
    refine ok_aload_n 0 dX2_penalty_26 rfl rfl ?_
    obtain ⟨c5, h⟩ := h
    refine ok_getr 2 0 dX2_penalty_27 f2_11 rfl c5 ?_
    refine ok_iload_n 2 dX2_penalty_30 rfl rfl ?_
    obtain ⟨c6, h⟩ := h
    obtain ⟨c7, h⟩ := h
    refine ok_iald dX2_penalty_31 c6 c7 ?_
    have k22 : ∀ x9 : Int32, x9 = (if (i (r v1 0) v5.toNatClampNeg) = (i (r v0 0) v2.toNatClampNeg) then 1 else 0) → Ok G (d + 1) mX2_penalty P 40 [some (.ref v0), some (.ref v1), some (.int v2), some (.int v3), some (.int v4), some (.int v5), none, none] [.int x9] i r := by
      intro x9 ex9
      replace h := h x9 ex9
      refine ok_istore dX2_penalty_40 (by decide) [some (.ref v0), some (.ref v1), some (.int v2), some (.int v3), some (.int v4), some (.int v5), some (.int x9), none] rfl ?_
      refine ok_aload_n 1 dX2_penalty_42 rfl rfl ?_
      refine ok_getr 7 0 dX2_penalty_43 f2_61 rfl c1 ?_
      refine ok_iload dX2_penalty_46 rfl ?_
      refine ok_iald dX2_penalty_48 c3 c4 ?_
      refine ok_aload_n 0 dX2_penalty_49 rfl rfl ?_
      refine ok_getr 2 0 dX2_penalty_50 f2_11 rfl c5 ?_
      refine ok_iload_n 3 dX2_penalty_53 rfl rfl ?_
      obtain ⟨c10, h⟩ := h
      refine ok_iald dX2_penalty_54 c6 c10 ?_
      have k21 : ∀ x12 : Int32, x12 = (if (i (r v1 0) v5.toNatClampNeg) = (i (r v0 0) v3.toNatClampNeg) then 1 else 0) → Ok G (d + 1) mX2_penalty P 63 [some (.ref v0), some (.ref v1), some (.int v2), some (.int v3), some (.int v4), some (.int v5), some (.int x9), none] [.int x12] i r := by
        intro x12 ex12
        replace h := h x12 ex12
        refine ok_istore dX2_penalty_63 (by decide) [some (.ref v0), some (.ref v1), some (.int v2), some (.int v3), some (.int v4), some (.int v5), some (.int x9), some (.int x12)] rfl ?_
        refine ok_iload dX2_penalty_65 rfl ?_
        refine ok_iload dX2_penalty_67 rfl ?_
        obtain ⟨hs, h⟩ := h
        have k20 : ∀ x18 : Int32, x18 = (if x9 = x12 then (if x9 = 0 then (v4 + (i (r v1 1) v5.toNatClampNeg)) else v4) else (v4 + 3)) → Ok G (d + 1) mX2_penalty P 95 [some (.ref v0), some (.ref v1), some (.int v2), some (.int v3), some (.int x18), some (.int v5), none, none] [] i r := by
          intro x18 ex18
          replace h := h x18 ex18
          refine ok_eqi (v5 + 1) (fun x19 ex19 => ?_)
          replace h := h x19 ex19
          refine ok_iinc 1 x19 dX2_penalty_95 rfl (by decide) ex19 (by decide) [some (.ref v0), some (.ref v1), some (.int v2), some (.int v3), some (.int x18), some (.int x19), none, none] rfl ?_
          refine ok_goto 10 dX2_penalty_98 (by decide) ?_
          exact h
        clear h
        refine ok_ic_eq 78 dX2_penalty_69 (by decide) (fun z13 => ?_) (fun z13 => ?_)
        · replace hs := hs.1 z13
          refine ok_iload dX2_penalty_78 rfl ?_
          refine ok_if_ne 95 dX2_penalty_80 (by decide) (fun z14 => ?_) (fun z14 => ?_)
          · replace hs := hs.1 z14
            refine ok_wk [some (.ref v0), some (.ref v1), some (.int v2), some (.int v3), some (.int v4), some (.int v5), none, none] ⟨rfl, rfl, rfl, rfl, rfl, rfl, trivial⟩ ?_
            exact k20 (v4) (by simp only [if_pos z13, if_neg z14])
          · replace hs := hs.2 z14
            refine ok_iload dX2_penalty_83 rfl ?_
            refine ok_aload_n 1 dX2_penalty_85 rfl rfl ?_
            refine ok_getr 7 1 dX2_penalty_86 f2_72 rfl c1 ?_
            refine ok_iload dX2_penalty_89 rfl ?_
            obtain ⟨c15, hs⟩  := hs
            obtain ⟨c16, hs⟩  := hs
            refine ok_iald dX2_penalty_91 c15 c16 ?_
            refine ok_iadd dX2_penalty_92 ?_
            refine ok_istore dX2_penalty_93 (by decide) [some (.ref v0), some (.ref v1), some (.int v2), some (.int v3), some (.int (v4 + (i (r v1 1) v5.toNatClampNeg))), some (.int v5), some (.int x9), some (.int x12)] rfl ?_
            refine ok_wk [some (.ref v0), some (.ref v1), some (.int v2), some (.int v3), some (.int (v4 + (i (r v1 1) v5.toNatClampNeg))), some (.int v5), none, none] ⟨rfl, rfl, rfl, rfl, rfl, rfl, trivial⟩ ?_
            exact k20 ((v4 + (i (r v1 1) v5.toNatClampNeg))) (by simp only [if_pos z13, if_pos z14])
        · replace hs := hs.2 z13
          refine ok_iinc 3 (v4 + 3) dX2_penalty_72 rfl (by decide) rfl (by decide) [some (.ref v0), some (.ref v1), some (.int v2), some (.int v3), some (.int (v4 + 3)), some (.int v5), some (.int x9), some (.int x12)] rfl ?_
          refine ok_goto 95 dX2_penalty_75 (by decide) ?_
          refine ok_wk [some (.ref v0), some (.ref v1), some (.int v2), some (.int v3), some (.int (v4 + 3)), some (.int v5), none, none] ⟨rfl, rfl, rfl, rfl, rfl, rfl, trivial⟩ ?_
          exact k20 ((v4 + 3)) (by simp only [if_neg z13])
      clear h
      refine ok_ic_ne 62 dX2_penalty_55 (by decide) (fun z11 => ?_) (fun z11 => ?_)
      · refine ok_iconst 0 dX2_penalty_62 (by decide) ?_
        exact k21 (0) (by simp only [if_neg z11])
      · refine ok_iconst 1 dX2_penalty_58 (by decide) ?_
        refine ok_goto 63 dX2_penalty_59 (by decide) ?_
        exact k21 (1) (by simp only [if_pos z11])
    clear h
    refine ok_ic_ne 39 dX2_penalty_32 (by decide) (fun z8 => ?_) (fun z8 => ?_)
    · refine ok_iconst 0 dX2_penalty_39 (by decide) ?_
      exact k22 (0) (by simp only [if_neg z8])
    · refine ok_iconst 1 dX2_penalty_35 (by decide) ?_
      refine ok_goto 40 dX2_penalty_36 (by decide) ?_
      exact k22 (1) (by simp only [if_pos z8])

set_option maxRecDepth 100000 in
set_option maxHeartbeats 4000000 in
theorem sX3_begin_0 {G : o_G} {d : Nat} {P : o_P} {i : o_I} {r : o_R} (v0 : Nat)
    (h : o_O G v0 3 ∧ ∀ i2 : o_I, i2 = o_up i v0 1 0 → ∀ i3 : o_I, i3 = o_up i2 v0 2 0 → P none i3 r) :
    Ok G (d + 1) mX3_begin P 0 [some (.ref v0)] [] i r := by
  refine ok_aload_n 0 dX3_begin_0 rfl rfl ?_
  refine ok_iconst 0 dX3_begin_1 (by decide) ?_
  obtain ⟨c1, h⟩ := h
  refine ok_puti 3 1 .int dX3_begin_2 f3_9 rfl rfl (by decide +kernel) rfl rfl c1 ?_
  refine ok_nmi (fun i2 ei2 => ?_)
  replace h := h i2 ei2
  refine ok_aload_n 0 dX3_begin_5 rfl rfl ?_
  refine ok_iconst 0 dX3_begin_6 (by decide) ?_
  refine ok_puti 3 2 .boolean dX3_begin_7 f3_15 rfl rfl (by decide +kernel) rfl rfl c1 ?_
  refine ok_nmi (fun i3 ei3 => ?_)
  replace h := h i3 ei3
  exact ok_vret dX3_begin_10 rfl h

set_option maxRecDepth 100000 in
set_option maxHeartbeats 4000000 in
theorem sX3_expect_0 {G : o_G} {d : Nat} {P : o_P} {i : o_I} {r : o_R} (v0 : Nat) (v1 : Int32)
    (h : o_O G v0 3 ∧ ((¬ (i v0 2) = 0 → ∀ i3 : o_I, i3 = o_up i v0 2 1 → P none i3 r) ∧ ((i v0 2) = 0 → o_O G (r v0 0) 9 ∧ (((i (r v0 0) 1) ≤ (i v0 1) → ∀ i6 : o_I, i6 = o_up i v0 2 1 → P none i6 r) ∧ (¬ (i (r v0 0) 1) ≤ (i v0 1) → o_Y G (r (r v0 0) 0) 2 ∧ vp_in (i v0 1) (o_len G (r (r v0 0) 0)) ∧ ((¬ (i (r (r v0 0) 0) (i v0 1).toNatClampNeg) = v1 → ∀ i10 : o_I, i10 = o_up i v0 2 1 → P none i10 r) ∧ ((i (r (r v0 0) 0) (i v0 1).toNatClampNeg) = v1 → ∀ i11 : o_I, i11 = o_up i v0 1 ((i v0 1) + 1) → P none i11 r))))))) :
    Ok G (d + 1) mX3_expect P 0 [some (.ref v0), some (.int v1)] [] i r := by
  refine ok_aload_n 0 dX3_expect_0 rfl rfl ?_
  obtain ⟨c1, h⟩ := h
  refine ok_geti 3 2 dX3_expect_1 f3_15 rfl c1 ?_
  refine ok_if_ne 50 dX3_expect_4 (by decide) (fun z2 => ?_) (fun z2 => ?_)
  · replace h := h.1 z2
    refine ok_aload_n 0 dX3_expect_50 rfl rfl ?_
    refine ok_iconst 1 dX3_expect_51 (by decide) ?_
    refine ok_puti 3 2 .boolean dX3_expect_52 f3_15 rfl rfl (by decide +kernel) rfl rfl c1 ?_
    refine ok_nmi (fun i3 ei3 => ?_)
    replace h := h i3 ei3
    exact ok_vret dX3_expect_55 rfl h
  · replace h := h.2 z2
    refine ok_aload_n 0 dX3_expect_7 rfl rfl ?_
    refine ok_geti 3 1 dX3_expect_8 f3_9 rfl c1 ?_
    refine ok_aload_n 0 dX3_expect_11 rfl rfl ?_
    refine ok_getr 3 0 dX3_expect_12 f3_19 rfl c1 ?_
    obtain ⟨c4, h⟩ := h
    refine ok_geti 9 1 dX3_expect_15 f3_54 rfl c4 ?_
    refine ok_ic_ge 50 dX3_expect_18 (by decide) (fun z5 => ?_) (fun z5 => ?_)
    · replace h := h.1 z5
      refine ok_aload_n 0 dX3_expect_50 rfl rfl ?_
      refine ok_iconst 1 dX3_expect_51 (by decide) ?_
      refine ok_puti 3 2 .boolean dX3_expect_52 f3_15 rfl rfl (by decide +kernel) rfl rfl c1 ?_
      refine ok_nmi (fun i6 ei6 => ?_)
      replace h := h i6 ei6
      exact ok_vret dX3_expect_55 rfl h
    · replace h := h.2 z5
      refine ok_aload_n 0 dX3_expect_21 rfl rfl ?_
      refine ok_getr 3 0 dX3_expect_22 f3_19 rfl c1 ?_
      refine ok_getr 9 0 dX3_expect_25 f3_93 rfl c4 ?_
      refine ok_aload_n 0 dX3_expect_28 rfl rfl ?_
      refine ok_geti 3 1 dX3_expect_29 f3_9 rfl c1 ?_
      obtain ⟨c7, h⟩ := h
      obtain ⟨c8, h⟩ := h
      refine ok_cald dX3_expect_32 c7 c8 ?_
      refine ok_iload_n 1 dX3_expect_33 rfl rfl ?_
      refine ok_ic_ne 50 dX3_expect_34 (by decide) (fun z9 => ?_) (fun z9 => ?_)
      · replace h := h.1 z9
        refine ok_aload_n 0 dX3_expect_50 rfl rfl ?_
        refine ok_iconst 1 dX3_expect_51 (by decide) ?_
        refine ok_puti 3 2 .boolean dX3_expect_52 f3_15 rfl rfl (by decide +kernel) rfl rfl c1 ?_
        refine ok_nmi (fun i10 ei10 => ?_)
        replace h := h i10 ei10
        exact ok_vret dX3_expect_55 rfl h
      · replace h := h.2 z9
        refine ok_aload_n 0 dX3_expect_37 rfl rfl ?_
        refine ok_dup dX3_expect_38 rfl ?_
        refine ok_geti 3 1 dX3_expect_39 f3_9 rfl c1 ?_
        refine ok_iconst 1 dX3_expect_42 (by decide) ?_
        refine ok_iadd dX3_expect_43 ?_
        refine ok_puti 3 1 .int dX3_expect_44 f3_9 rfl rfl (by decide +kernel) rfl rfl c1 ?_
        refine ok_nmi (fun i11 ei11 => ?_)
        replace h := h i11 ei11
        refine ok_goto 55 dX3_expect_47 (by decide) ?_
        exact ok_vret dX3_expect_55 rfl h

set_option maxRecDepth 100000 in
set_option maxHeartbeats 4000000 in
theorem sX3_parseReads_0 {G : o_G} {d : Nat} {P : o_P} {i : o_I} {r : o_R} (v0 : Nat) (v1 : Nat)
    (h : o_O G v0 3 ∧ SpV G d mX3_begin [.ref v0] (fun i2 => o_O G v1 6 ∧ ∀ i4 : o_I, i4 = o_up i2 v1 5 0 → Ok G (d + 1) mX3_parseReads P 9 [some (.ref v0), some (.ref v1)] [] i4 r) i r) :
    Ok G (d + 1) mX3_parseReads P 0 [some (.ref v0), some (.ref v1)] [] i r := by
  refine ok_aload_n 0 dX3_parseReads_0 rfl rfl ?_
  obtain ⟨c1, h⟩ := h
  refine ok_cVv (rest := []) o_rc 3 [] dX3_parseReads_1 k3_23 c1 rfl rfl (Nat.le_of_ble_eq_true rfl) h (fun i2 h => ?_)
  refine ok_aload_n 1 dX3_parseReads_4 rfl rfl ?_
  refine ok_iconst 0 dX3_parseReads_5 (by decide) ?_
  obtain ⟨c3, h⟩ := h
  refine ok_puti 6 5 .int dX3_parseReads_6 f3_59 rfl rfl (by decide +kernel) rfl rfl c3 ?_
  refine ok_nmi (fun i4 ei4 => ?_)
  replace h := h i4 ei4
  exact h

set_option maxRecDepth 100000 in
set_option maxHeartbeats 4000000 in
theorem sX3_parseReads_9 {G : o_G} {d : Nat} {P : o_P} {i : o_I} {r : o_R} (v0 : Nat) (v1 : Nat)
    (h : o_O G v0 3 ∧ ((¬ (i v0 2) = 0 → Ok G (d + 1) mX3_parseReads P 65 [some (.ref v0), none] [] i r) ∧ ((i v0 2) = 0 → o_O G (r v0 0) 9 ∧ (((i (r v0 0) 1) ≤ (i v0 1) → Ok G (d + 1) mX3_parseReads P 65 [some (.ref v0), none] [] i r) ∧ (¬ (i (r v0 0) 1) ≤ (i v0 1) → o_O G v1 6 ∧ ((8 ≤ (i v1 5) → Ok G (d + 1) mX3_parseReads P 65 [some (.ref v0), none] [] i r) ∧ (¬ 8 ≤ (i v1 5) → o_Y G (r v1 4) 4 ∧ vp_in (i v1 5) (o_len G (r v1 4)) ∧ SpV G d mX3_takeRead [.ref v0, .ref (r (r v1 4) (i v1 5).toNatClampNeg)] (fun i9 => ∀ i10 : o_I, i10 = o_up i9 v1 5 ((i9 v1 5) + 1) → Ok G (d + 1) mX3_parseReads P 9 [some (.ref v0), some (.ref v1)] [] i10 r) i r))))))) :
    Ok G (d + 1) mX3_parseReads P 9 [some (.ref v0), some (.ref v1)] [] i r := by
  refine ok_aload_n 0 dX3_parseReads_9 rfl rfl ?_
  obtain ⟨c1, h⟩ := h
  refine ok_geti 3 2 dX3_parseReads_10 f3_15 rfl c1 ?_
  refine ok_if_ne 65 dX3_parseReads_13 (by decide) (fun z2 => ?_) (fun z2 => ?_)
  · replace h := h.1 z2
    refine ok_wk [some (.ref v0), none] ⟨rfl, trivial⟩ ?_
    exact h
  · replace h := h.2 z2
    refine ok_aload_n 0 dX3_parseReads_16 rfl rfl ?_
    refine ok_geti 3 1 dX3_parseReads_17 f3_9 rfl c1 ?_
    refine ok_aload_n 0 dX3_parseReads_20 rfl rfl ?_
    refine ok_getr 3 0 dX3_parseReads_21 f3_19 rfl c1 ?_
    obtain ⟨c3, h⟩ := h
    refine ok_geti 9 1 dX3_parseReads_24 f3_54 rfl c3 ?_
    refine ok_ic_ge 65 dX3_parseReads_27 (by decide) (fun z4 => ?_) (fun z4 => ?_)
    · replace h := h.1 z4
      refine ok_wk [some (.ref v0), none] ⟨rfl, trivial⟩ ?_
      exact h
    · replace h := h.2 z4
      refine ok_aload_n 1 dX3_parseReads_30 rfl rfl ?_
      obtain ⟨c5, h⟩ := h
      refine ok_geti 6 5 dX3_parseReads_31 f3_59 rfl c5 ?_
      refine ok_bipush 8 dX3_parseReads_34 (by decide) ?_
      refine ok_ic_ge 65 dX3_parseReads_36 (by decide) (fun z6 => ?_) (fun z6 => ?_)
      · replace h := h.1 z6
        refine ok_wk [some (.ref v0), none] ⟨rfl, trivial⟩ ?_
        exact h
      · replace h := h.2 z6
        refine ok_aload_n 0 dX3_parseReads_39 rfl rfl ?_
        refine ok_aload_n 1 dX3_parseReads_40 rfl rfl ?_
        refine ok_getr 6 4 dX3_parseReads_41 f3_62 rfl c5 ?_
        refine ok_aload_n 1 dX3_parseReads_44 rfl rfl ?_
        refine ok_geti 6 5 dX3_parseReads_45 f3_59 rfl c5 ?_
        obtain ⟨c7, h⟩ := h
        obtain ⟨c8, h⟩ := h
        refine ok_ald4 dX3_parseReads_48 c7 c8 ?_
        refine ok_cVv (rest := []) o_rc 3 [.ref (r (r v1 4) (i v1 5).toNatClampNeg)] dX3_parseReads_49 k3_66 c1 rfl rfl (Nat.le_of_ble_eq_true rfl) h (fun i9 h => ?_)
        refine ok_aload_n 1 dX3_parseReads_52 rfl rfl ?_
        refine ok_dup dX3_parseReads_53 rfl ?_
        refine ok_geti 6 5 dX3_parseReads_54 f3_59 rfl c5 ?_
        refine ok_iconst 1 dX3_parseReads_57 (by decide) ?_
        refine ok_iadd dX3_parseReads_58 ?_
        refine ok_puti 6 5 .int dX3_parseReads_59 f3_59 rfl rfl (by decide +kernel) rfl rfl c5 ?_
        refine ok_nmi (fun i10 ei10 => ?_)
        replace h := h i10 ei10
        refine ok_goto 9 dX3_parseReads_62 (by decide) ?_
        exact h

set_option maxRecDepth 100000 in
set_option maxHeartbeats 4000000 in
theorem sX3_parseReads_65 {G : o_G} {d : Nat} {P : o_P} {i : o_I} {r : o_R} (v0 : Nat)
    (h : o_O G v0 3 ∧ ((¬ (i v0 2) = 0 → True) ∧ ((i v0 2) = 0 → o_O G (r v0 0) 9 ∧ True)) ∧ (∀ x5 : Int32, x5 = (if (i v0 2) = 0 then (if (i (r v0 0) 1) ≤ (i v0 1) then (-1) else (i v0 1)) else (i v0 1)) → P (some (.int x5)) i r)) :
    Ok G (d + 1) mX3_parseReads P 65 [some (.ref v0), none] [] i r := by
  refine ok_aload_n 0 dX3_parseReads_65 rfl rfl ?_
  obtain ⟨c1, h⟩ := h
  refine ok_geti 3 2 dX3_parseReads_66 f3_15 rfl c1 ?_
  obtain ⟨hs, h⟩ := h
  have k6 : ∀ x5 : Int32, x5 = (if (i v0 2) = 0 then (if (i (r v0 0) 1) ≤ (i v0 1) then (-1) else (i v0 1)) else (i v0 1)) → Ok G (d + 1) mX3_parseReads P 94 [none, none] [.int x5] i r := by
    intro x5 ex5
    replace h := h x5 ex5
    exact ok_iret .int dX3_parseReads_94 rfl rfl h
  clear h
  refine ok_if_ne 86 dX3_parseReads_69 (by decide) (fun z2 => ?_) (fun z2 => ?_)
  · replace hs := hs.1 z2
    refine ok_aload_n 0 dX3_parseReads_86 rfl rfl ?_
    refine ok_geti 3 1 dX3_parseReads_87 f3_9 rfl c1 ?_
    refine ok_goto 94 dX3_parseReads_90 (by decide) ?_
    refine ok_wk [none, none] trivial ?_
    exact k6 ((i v0 1)) (by simp only [if_neg z2])
  · replace hs := hs.2 z2
    refine ok_aload_n 0 dX3_parseReads_72 rfl rfl ?_
    refine ok_geti 3 1 dX3_parseReads_73 f3_9 rfl c1 ?_
    refine ok_aload_n 0 dX3_parseReads_76 rfl rfl ?_
    refine ok_getr 3 0 dX3_parseReads_77 f3_19 rfl c1 ?_
    obtain ⟨c3, hs⟩  := hs
    refine ok_geti 9 1 dX3_parseReads_80 f3_54 rfl c3 ?_
    refine ok_ic_ge 93 dX3_parseReads_83 (by decide) (fun z4 => ?_) (fun z4 => ?_)
    · refine ok_iconst (-1) dX3_parseReads_93 (by decide) ?_
      refine ok_wk [none, none] trivial ?_
      exact k6 ((-1)) (by simp only [if_pos z2, if_pos z4])
    · refine ok_aload_n 0 dX3_parseReads_86 rfl rfl ?_
      refine ok_geti 3 1 dX3_parseReads_87 f3_9 rfl c1 ?_
      refine ok_goto 94 dX3_parseReads_90 (by decide) ?_
      refine ok_wk [none, none] trivial ?_
      exact k6 ((i v0 1)) (by simp only [if_pos z2, if_neg z4])

set_option maxRecDepth 100000 in
set_option maxHeartbeats 4000000 in
theorem sX3_parseReference_0 {G : o_G} {d : Nat} {P : o_P} {i : o_I} {r : o_R} (v0 : Nat) (v1 : Nat)
    (h : o_O G v0 3 ∧ SpV G d mX3_begin [.ref v0] (fun i2 => SpV G d mX3_expect [.ref v0, .int 62] (fun i3 => SpI G d mX3_take [.ref v0, .int 1, .int 8, .int 0] (fun x4 i4 => o_O G v1 6 ∧ ∀ i6 : o_I, i6 = o_up i4 v1 1 x4 → Ok G (d + 1) mX3_parseReference P 24 [some (.ref v0), some (.ref v1), some (.int 0)] [] i6 r) i3 r) i2 r) i r) :
    Ok G (d + 1) mX3_parseReference P 0 [some (.ref v0), some (.ref v1), none] [] i r := by
  refine ok_aload_n 0 dX3_parseReference_0 rfl rfl ?_
  obtain ⟨c1, h⟩ := h
  refine ok_cVv (rest := []) o_rc 3 [] dX3_parseReference_1 k3_23 c1 rfl rfl (Nat.le_of_ble_eq_true rfl) h (fun i2 h => ?_)
  refine ok_aload_n 0 dX3_parseReference_4 rfl rfl ?_
  refine ok_bipush 62 dX3_parseReference_5 (by decide) ?_
  refine ok_cVv (rest := []) o_rc 3 [.int 62] dX3_parseReference_7 k3_26 c1 rfl rfl (Nat.le_of_ble_eq_true rfl) h (fun i3 h => ?_)
  refine ok_aload_n 1 dX3_parseReference_10 rfl rfl ?_
  refine ok_aload_n 0 dX3_parseReference_11 rfl rfl ?_
  refine ok_iconst 1 dX3_parseReference_12 (by decide) ?_
  refine ok_bipush 8 dX3_parseReference_13 (by decide) ?_
  refine ok_iconst 0 dX3_parseReference_15 (by decide) ?_
  refine ok_cVi (rest := [.ref v1]) o_rc 3 [.int 1, .int 8, .int 0] dX3_parseReference_16 k3_30 c1 rfl rfl (Nat.le_of_ble_eq_true rfl) h (fun x4 i4 h => ?_)
  obtain ⟨c5, h⟩ := h
  refine ok_puti 6 1 .int dX3_parseReference_19 f3_34 rfl rfl (by decide +kernel) rfl rfl c5 ?_
  refine ok_nmi (fun i6 ei6 => ?_)
  replace h := h i6 ei6
  refine ok_iconst 0 dX3_parseReference_22 (by decide) ?_
  refine ok_istore_n 2 dX3_parseReference_23 rfl (by decide) [some (.ref v0), some (.ref v1), some (.int 0)] rfl ?_
  exact h

set_option maxRecDepth 100000 in
set_option maxHeartbeats 4000000 in
theorem sX3_parseReference_24 {G : o_G} {d : Nat} {P : o_P} {i : o_I} {r : o_R} (v0 : Nat) (v1 : Nat) (v2 : Int32)
    (h : o_O G v1 6 ∧ (((i v1 1) ≤ v2 → o_O G v0 3 ∧ SpV G d mX3_expect [.ref v0, .int 10] (fun i4 => ∀ i5 : o_I, i5 = o_up i4 v1 3 0 → SpV G d mX3_takeLine [.ref v0, .ref v1] (fun i6 => Ok G (d + 1) mX3_parseReference P 71 [some (.ref v0), some (.ref v1), some (.int 1)] [] i6 r) i5 r) i r) ∧ (¬ (i v1 1) ≤ v2 → o_O G v0 3 ∧ SpI G d mX3_taken [.ref v0, .int (i v1 1), .int v2] (fun x8 i8 => o_Y G (r v1 0) 2 ∧ vp_in v2 (o_len G (r v1 0)) ∧ ∀ i11 : o_I, i11 = o_up i8 (r v1 0) v2.toNatClampNeg (vp_nar .char x8) → ∀ x12 : Int32, x12 = v2 + 1 → Ok G (d + 1) mX3_parseReference P 24 [some (.ref v0), some (.ref v1), some (.int x12)] [] i11 r) i r))) :
    Ok G (d + 1) mX3_parseReference P 24 [some (.ref v0), some (.ref v1), some (.int v2)] [] i r := by
  refine ok_iload_n 2 dX3_parseReference_24 rfl rfl ?_
  refine ok_aload_n 1 dX3_parseReference_25 rfl rfl ?_
  obtain ⟨c1, h⟩ := h
  refine ok_geti 6 1 dX3_parseReference_26 f3_34 rfl c1 ?_
  refine ok_ic_ge 53 dX3_parseReference_29 (by decide) (fun z2 => ?_) (fun z2 => ?_)
  · replace h := h.1 z2
    refine ok_aload_n 0 dX3_parseReference_53 rfl rfl ?_
    refine ok_bipush 10 dX3_parseReference_54 (by decide) ?_
    obtain ⟨c3, h⟩ := h
    refine ok_cVv (rest := []) o_rc 3 [.int 10] dX3_parseReference_56 k3_26 c3 rfl rfl (Nat.le_of_ble_eq_true rfl) h (fun i4 h => ?_)
    refine ok_aload_n 1 dX3_parseReference_59 rfl rfl ?_
    refine ok_iconst 0 dX3_parseReference_60 (by decide) ?_
    refine ok_puti 6 3 .int dX3_parseReference_61 f3_47 rfl rfl (by decide +kernel) rfl rfl c1 ?_
    refine ok_nmi (fun i5 ei5 => ?_)
    replace h := h i5 ei5
    refine ok_aload_n 0 dX3_parseReference_64 rfl rfl ?_
    refine ok_aload_n 1 dX3_parseReference_65 rfl rfl ?_
    refine ok_cVv (rest := []) o_rc 3 [.ref v1] dX3_parseReference_66 k3_50 c3 rfl rfl (Nat.le_of_ble_eq_true rfl) h (fun i6 h => ?_)
    refine ok_iconst 1 dX3_parseReference_69 (by decide) ?_
    refine ok_istore_n 2 dX3_parseReference_70 rfl (by decide) [some (.ref v0), some (.ref v1), some (.int 1)] rfl ?_
    exact h
  · replace h := h.2 z2
    refine ok_aload_n 1 dX3_parseReference_32 rfl rfl ?_
    refine ok_getr 6 0 dX3_parseReference_33 f3_39 rfl c1 ?_
    refine ok_iload_n 2 dX3_parseReference_36 rfl rfl ?_
    refine ok_aload_n 0 dX3_parseReference_37 rfl rfl ?_
    refine ok_aload_n 1 dX3_parseReference_38 rfl rfl ?_
    refine ok_geti 6 1 dX3_parseReference_39 f3_34 rfl c1 ?_
    refine ok_iload_n 2 dX3_parseReference_42 rfl rfl ?_
    obtain ⟨c7, h⟩ := h
    refine ok_cVi (rest := [.int v2, .ref (r v1 0)]) o_rc 3 [.int (i v1 1), .int v2] dX3_parseReference_43 k3_43 c7 rfl rfl (Nat.le_of_ble_eq_true rfl) h (fun x8 i8 h => ?_)
    obtain ⟨c9, h⟩ := h
    obtain ⟨c10, h⟩ := h
    refine ok_cast dX3_parseReference_46 c9 c10 ?_
    refine ok_nmi (fun i11 ei11 => ?_)
    replace h := h i11 ei11
    refine ok_eqi (v2 + 1) (fun x12 ex12 => ?_)
    replace h := h x12 ex12
    refine ok_iinc 1 x12 dX3_parseReference_47 rfl (by decide) ex12 (by decide) [some (.ref v0), some (.ref v1), some (.int x12)] rfl ?_
    refine ok_goto 24 dX3_parseReference_50 (by decide) ?_
    exact h

set_option maxRecDepth 100000 in
set_option maxHeartbeats 4000000 in
theorem sX3_parseReference_71 {G : o_G} {d : Nat} {P : o_P} {i : o_I} {r : o_R} (v0 : Nat) (v1 : Nat) (v2 : Int32)
    (h : ((48 < v2 → Ok G (d + 1) mX3_parseReference P 109 [some (.ref v0), none, none] [] i r) ∧ (¬ 48 < v2 → o_O G v0 3 ∧ ((¬ (i v0 2) = 0 → Ok G (d + 1) mX3_parseReference P 109 [some (.ref v0), none, none] [] i r) ∧ ((i v0 2) = 0 → o_O G (r v0 0) 9 ∧ (((i (r v0 0) 1) ≤ (i v0 1) → Ok G (d + 1) mX3_parseReference P 109 [some (.ref v0), none, none] [] i r) ∧ (¬ (i (r v0 0) 1) ≤ (i v0 1) → SpV G d mX3_takeLine [.ref v0, .ref v1] (fun i6 => ∀ x7 : Int32, x7 = v2 + 1 → Ok G (d + 1) mX3_parseReference P 71 [some (.ref v0), some (.ref v1), some (.int x7)] [] i6 r) i r))))))) :
    Ok G (d + 1) mX3_parseReference P 71 [some (.ref v0), some (.ref v1), some (.int v2)] [] i r := by
  refine ok_iload_n 2 dX3_parseReference_71 rfl rfl ?_
  refine ok_bipush 48 dX3_parseReference_72 (by decide) ?_
  refine ok_ic_gt 109 dX3_parseReference_74 (by decide) (fun z1 => ?_) (fun z1 => ?_)
  · replace h := h.1 z1
    refine ok_wk [some (.ref v0), none, none] ⟨rfl, trivial⟩ ?_
    exact h
  · replace h := h.2 z1
    refine ok_aload_n 0 dX3_parseReference_77 rfl rfl ?_
    obtain ⟨c2, h⟩ := h
    refine ok_geti 3 2 dX3_parseReference_78 f3_15 rfl c2 ?_
    refine ok_if_ne 109 dX3_parseReference_81 (by decide) (fun z3 => ?_) (fun z3 => ?_)
    · replace h := h.1 z3
      refine ok_wk [some (.ref v0), none, none] ⟨rfl, trivial⟩ ?_
      exact h
    · replace h := h.2 z3
      refine ok_aload_n 0 dX3_parseReference_84 rfl rfl ?_
      refine ok_geti 3 1 dX3_parseReference_85 f3_9 rfl c2 ?_
      refine ok_aload_n 0 dX3_parseReference_88 rfl rfl ?_
      refine ok_getr 3 0 dX3_parseReference_89 f3_19 rfl c2 ?_
      obtain ⟨c4, h⟩ := h
      refine ok_geti 9 1 dX3_parseReference_92 f3_54 rfl c4 ?_
      refine ok_ic_ge 109 dX3_parseReference_95 (by decide) (fun z5 => ?_) (fun z5 => ?_)
      · replace h := h.1 z5
        refine ok_wk [some (.ref v0), none, none] ⟨rfl, trivial⟩ ?_
        exact h
      · replace h := h.2 z5
        refine ok_aload_n 0 dX3_parseReference_98 rfl rfl ?_
        refine ok_aload_n 1 dX3_parseReference_99 rfl rfl ?_
        refine ok_cVv (rest := []) o_rc 3 [.ref v1] dX3_parseReference_100 k3_50 c2 rfl rfl (Nat.le_of_ble_eq_true rfl) h (fun i6 h => ?_)
        refine ok_eqi (v2 + 1) (fun x7 ex7 => ?_)
        replace h := h x7 ex7
        refine ok_iinc 1 x7 dX3_parseReference_103 rfl (by decide) ex7 (by decide) [some (.ref v0), some (.ref v1), some (.int x7)] rfl ?_
        refine ok_goto 71 dX3_parseReference_106 (by decide) ?_
        exact h

set_option maxRecDepth 100000 in
set_option maxHeartbeats 4000000 in
theorem sX3_parseReference_109 {G : o_G} {d : Nat} {P : o_P} {i : o_I} {r : o_R} (v0 : Nat)
    (h : o_O G v0 3 ∧ (∀ x3 : Int32, x3 = (if (i v0 2) = 0 then (-1) else (i v0 1)) → P (some (.int x3)) i r)) :
    Ok G (d + 1) mX3_parseReference P 109 [some (.ref v0), none, none] [] i r := by
  refine ok_aload_n 0 dX3_parseReference_109 rfl rfl ?_
  obtain ⟨c1, h⟩ := h
  refine ok_geti 3 2 dX3_parseReference_110 f3_15 rfl c1 ?_
  have k4 : ∀ x3 : Int32, x3 = (if (i v0 2) = 0 then (-1) else (i v0 1)) → Ok G (d + 1) mX3_parseReference P 124 [none, none, none] [.int x3] i r := by
    intro x3 ex3
    replace h := h x3 ex3
    exact ok_iret .int dX3_parseReference_124 rfl rfl h
  clear h
  refine ok_if_eq 123 dX3_parseReference_113 (by decide) (fun z2 => ?_) (fun z2 => ?_)
  · refine ok_iconst (-1) dX3_parseReference_123 (by decide) ?_
    refine ok_wk [none, none, none] trivial ?_
    exact k4 ((-1)) (by simp only [if_pos z2])
  · refine ok_aload_n 0 dX3_parseReference_116 rfl rfl ?_
    refine ok_geti 3 1 dX3_parseReference_117 f3_9 rfl c1 ?_
    refine ok_goto 124 dX3_parseReference_120 (by decide) ?_
    refine ok_wk [none, none, none] trivial ?_
    exact k4 ((i v0 1)) (by simp only [if_neg z2])

set_option maxRecDepth 100000 in
set_option maxHeartbeats 4000000 in
theorem sX3_take_0 {G : o_G} {d : Nat} {P : o_P} {i : o_I} {r : o_R} (v0 : Nat) (v1 : Int32) (v2 : Int32) (v3 : Int32)
    (h : Ok G (d + 1) mX3_take P 3 [some (.ref v0), some (.int v1), some (.int v2), some (.int v3), some (.int 0)] [] i r) :
    Ok G (d + 1) mX3_take P 0 [some (.ref v0), some (.int v1), some (.int v2), some (.int v3), none] [] i r := by
  refine ok_iconst 0 dX3_take_0 (by decide) ?_
  refine ok_istore dX3_take_1 (by decide) [some (.ref v0), some (.int v1), some (.int v2), some (.int v3), some (.int 0)] rfl ?_
  exact h

set_option maxRecDepth 100000 in
set_option maxHeartbeats 4000000 in
theorem sX3_take_3 {G : o_G} {d : Nat} {P : o_P} {i : o_I} {r : o_R} (v0 : Nat) (v1 : Int32) (v2 : Int32) (v3 : Int32) (v4 : Int32)
    (h : o_O G v0 3 ∧ ((¬ (i v0 2) = 0 → Ok G (d + 1) mX3_take P 65 [some (.ref v0), some (.int v1), none, none, some (.int v4)] [] i r) ∧ ((i v0 2) = 0 → ((v2 ≤ v4 → Ok G (d + 1) mX3_take P 65 [some (.ref v0), some (.int v1), none, none, some (.int v4)] [] i r) ∧ (¬ v2 ≤ v4 → o_O G (r v0 0) 9 ∧ (((i (r v0 0) 1) ≤ (i v0 1) → Ok G (d + 1) mX3_take P 65 [some (.ref v0), some (.int v1), none, none, some (.int v4)] [] i r) ∧ (¬ (i (r v0 0) 1) ≤ (i v0 1) → o_Y G (r (r v0 0) 0) 2 ∧ vp_in (i v0 1) (o_len G (r (r v0 0) 0)) ∧ SpI G d mX3_isOf [.int v3, .int (i (r (r v0 0) 0) (i v0 1).toNatClampNeg)] (fun x8 i8 => ((x8 = 0 → Ok G (d + 1) mX3_take P 65 [some (.ref v0), some (.int v1), none, none, some (.int v4)] [] i8 r) ∧ (¬ x8 = 0 → ∀ i10 : o_I, i10 = o_up i8 v0 1 ((i8 v0 1) + 1) → ∀ x11 : Int32, x11 = v4 + 1 → Ok G (d + 1) mX3_take P 3 [some (.ref v0), some (.int v1), some (.int v2), some (.int v3), some (.int x11)] [] i10 r))) i r))))))) :
    Ok G (d + 1) mX3_take P 3 [some (.ref v0), some (.int v1), some (.int v2), some (.int v3), some (.int v4)] [] i r := by
  refine ok_aload_n 0 dX3_take_3 rfl rfl ?_
  obtain ⟨c1, h⟩ := h
  refine ok_geti 3 2 dX3_take_4 f3_15 rfl c1 ?_
  refine ok_if_ne 65 dX3_take_7 (by decide) (fun z2 => ?_) (fun z2 => ?_)
  · replace h := h.1 z2
    refine ok_wk [some (.ref v0), some (.int v1), none, none, some (.int v4)] ⟨rfl, rfl, rfl, trivial⟩ ?_
    exact h
  · replace h := h.2 z2
    refine ok_iload dX3_take_10 rfl ?_
    refine ok_iload_n 2 dX3_take_12 rfl rfl ?_
    refine ok_ic_ge 65 dX3_take_13 (by decide) (fun z3 => ?_) (fun z3 => ?_)
    · replace h := h.1 z3
      refine ok_wk [some (.ref v0), some (.int v1), none, none, some (.int v4)] ⟨rfl, rfl, rfl, trivial⟩ ?_
      exact h
    · replace h := h.2 z3
      refine ok_aload_n 0 dX3_take_16 rfl rfl ?_
      refine ok_geti 3 1 dX3_take_17 f3_9 rfl c1 ?_
      refine ok_aload_n 0 dX3_take_20 rfl rfl ?_
      refine ok_getr 3 0 dX3_take_21 f3_19 rfl c1 ?_
      obtain ⟨c4, h⟩ := h
      refine ok_geti 9 1 dX3_take_24 f3_54 rfl c4 ?_
      refine ok_ic_ge 65 dX3_take_27 (by decide) (fun z5 => ?_) (fun z5 => ?_)
      · replace h := h.1 z5
        refine ok_wk [some (.ref v0), some (.int v1), none, none, some (.int v4)] ⟨rfl, rfl, rfl, trivial⟩ ?_
        exact h
      · replace h := h.2 z5
        refine ok_iload_n 3 dX3_take_30 rfl rfl ?_
        refine ok_aload_n 0 dX3_take_31 rfl rfl ?_
        refine ok_getr 3 0 dX3_take_32 f3_19 rfl c1 ?_
        refine ok_getr 9 0 dX3_take_35 f3_93 rfl c4 ?_
        refine ok_aload_n 0 dX3_take_38 rfl rfl ?_
        refine ok_geti 3 1 dX3_take_39 f3_9 rfl c1 ?_
        obtain ⟨c6, h⟩ := h
        obtain ⟨c7, h⟩ := h
        refine ok_cald dX3_take_42 c6 c7 ?_
        refine ok_cSi (rest := []) o_rc [.int v3, .int (i (r (r v0 0) 0) (i v0 1).toNatClampNeg)] dX3_take_43 k3_96 rfl rfl (Nat.le_of_ble_eq_true rfl) h (fun x8 i8 h => ?_)
        refine ok_if_eq 65 dX3_take_46 (by decide) (fun z9 => ?_) (fun z9 => ?_)
        · replace h := h.1 z9
          refine ok_wk [some (.ref v0), some (.int v1), none, none, some (.int v4)] ⟨rfl, rfl, rfl, trivial⟩ ?_
          exact h
        · replace h := h.2 z9
          refine ok_aload_n 0 dX3_take_49 rfl rfl ?_
          refine ok_dup dX3_take_50 rfl ?_
          refine ok_geti 3 1 dX3_take_51 f3_9 rfl c1 ?_
          refine ok_iconst 1 dX3_take_54 (by decide) ?_
          refine ok_iadd dX3_take_55 ?_
          refine ok_puti 3 1 .int dX3_take_56 f3_9 rfl rfl (by decide +kernel) rfl rfl c1 ?_
          refine ok_nmi (fun i10 ei10 => ?_)
          replace h := h i10 ei10
          refine ok_eqi (v4 + 1) (fun x11 ex11 => ?_)
          replace h := h x11 ex11
          refine ok_iinc 1 x11 dX3_take_59 rfl (by decide) ex11 (by decide) [some (.ref v0), some (.int v1), some (.int v2), some (.int v3), some (.int x11)] rfl ?_
          refine ok_goto 3 dX3_take_62 (by decide) ?_
          exact h

set_option maxRecDepth 100000 in
set_option maxHeartbeats 4000000 in
theorem sX3_take_65 {G : o_G} {d : Nat} {P : o_P} {i : o_I} {r : o_R} (v0 : Nat) (v1 : Int32) (v4 : Int32)
    (h : ((v1 ≤ v4 → Ok G (d + 1) mX3_take P 76 [some (.ref v0), none, none, none, some (.int v4)] [] i r) ∧ (¬ v1 ≤ v4 → o_O G v0 3 ∧ ∀ i3 : o_I, i3 = o_up i v0 2 1 → Ok G (d + 1) mX3_take P 76 [some (.ref v0), none, none, none, some (.int v4)] [] i3 r))) :
    Ok G (d + 1) mX3_take P 65 [some (.ref v0), some (.int v1), none, none, some (.int v4)] [] i r := by
  refine ok_iload dX3_take_65 rfl ?_
  refine ok_iload_n 1 dX3_take_67 rfl rfl ?_
  refine ok_ic_ge 76 dX3_take_68 (by decide) (fun z1 => ?_) (fun z1 => ?_)
  · replace h := h.1 z1
    refine ok_wk [some (.ref v0), none, none, none, some (.int v4)] ⟨rfl, rfl, trivial⟩ ?_
    exact h
  · replace h := h.2 z1
    refine ok_aload_n 0 dX3_take_71 rfl rfl ?_
    refine ok_iconst 1 dX3_take_72 (by decide) ?_
    obtain ⟨c2, h⟩ := h
    refine ok_puti 3 2 .boolean dX3_take_73 f3_15 rfl rfl (by decide +kernel) rfl rfl c2 ?_
    refine ok_nmi (fun i3 ei3 => ?_)
    replace h := h i3 ei3
    refine ok_wk [some (.ref v0), none, none, none, some (.int v4)] ⟨rfl, rfl, trivial⟩ ?_
    exact h

set_option maxRecDepth 100000 in
set_option maxHeartbeats 4000000 in
theorem sX3_take_76 {G : o_G} {d : Nat} {P : o_P} {i : o_I} {r : o_R} (v0 : Nat) (v4 : Int32)
    (h : o_O G v0 3 ∧ (∀ x3 : Int32, x3 = (if (i v0 2) = 0 then v4 else 0) → P (some (.int x3)) i r)) :
    Ok G (d + 1) mX3_take P 76 [some (.ref v0), none, none, none, some (.int v4)] [] i r := by
  refine ok_aload_n 0 dX3_take_76 rfl rfl ?_
  obtain ⟨c1, h⟩ := h
  refine ok_geti 3 2 dX3_take_77 f3_15 rfl c1 ?_
  have k4 : ∀ x3 : Int32, x3 = (if (i v0 2) = 0 then v4 else 0) → Ok G (d + 1) mX3_take P 89 [none, none, none, none, none] [.int x3] i r := by
    intro x3 ex3
    replace h := h x3 ex3
    exact ok_iret .int dX3_take_89 rfl rfl h
  clear h
  refine ok_if_eq 87 dX3_take_80 (by decide) (fun z2 => ?_) (fun z2 => ?_)
  · refine ok_iload dX3_take_87 rfl ?_
    refine ok_wk [none, none, none, none, none] trivial ?_
    exact k4 (v4) (by simp only [if_pos z2])
  · refine ok_iconst 0 dX3_take_83 (by decide) ?_
    refine ok_goto 89 dX3_take_84 (by decide) ?_
    refine ok_wk [none, none, none, none, none] trivial ?_
    exact k4 (0) (by simp only [if_neg z2])

set_option maxRecDepth 100000 in
set_option maxHeartbeats 4000000 in
theorem sX3_taken_0 {G : o_G} {d : Nat} {P : o_P} {i : o_I} {r : o_R} (v0 : Nat) (v1 : Int32) (v2 : Int32)
    (h : o_O G v0 3 ∧ o_O G (r v0 0) 9 ∧ o_Y G (r (r v0 0) 0) 2 ∧ vp_in (((i v0 1) - v1) + v2) (o_len G (r (r v0 0) 0)) ∧ narrow .char (.int (i (r (r v0 0) 0) (((i v0 1) - v1) + v2).toNatClampNeg)) = .int (i (r (r v0 0) 0) (((i v0 1) - v1) + v2).toNatClampNeg) ∧ P (some (.int (i (r (r v0 0) 0) (((i v0 1) - v1) + v2).toNatClampNeg))) i r) :
    Ok G (d + 1) mX3_taken P 0 [some (.ref v0), some (.int v1), some (.int v2)] [] i r := by
  refine ok_aload_n 0 dX3_taken_0 rfl rfl ?_
  obtain ⟨c1, h⟩ := h
  refine ok_getr 3 0 dX3_taken_1 f3_19 rfl c1 ?_
  obtain ⟨c2, h⟩ := h
  refine ok_getr 9 0 dX3_taken_4 f3_93 rfl c2 ?_
  refine ok_aload_n 0 dX3_taken_7 rfl rfl ?_
  refine ok_geti 3 1 dX3_taken_8 f3_9 rfl c1 ?_
  refine ok_iload_n 1 dX3_taken_11 rfl rfl ?_
  refine ok_isub dX3_taken_12 ?_
  refine ok_iload_n 2 dX3_taken_13 rfl rfl ?_
  refine ok_iadd dX3_taken_14 ?_
  obtain ⟨c3, h⟩ := h
  obtain ⟨c4, h⟩ := h
  refine ok_cald dX3_taken_15 c3 c4 ?_
  obtain ⟨c5, h⟩ := h
  exact ok_iret .char dX3_taken_16 rfl c5 h

set_option maxRecDepth 100000 in
set_option maxHeartbeats 4000000 in
theorem sX4_forget_0 {G : o_G} {d : Nat} {P : o_P} {i : o_I} {r : o_R} (v0 : Nat)
    (h : Ok G (d + 1) mX4_forget P 2 [some (.ref v0), some (.int 0)] [] i r) :
    Ok G (d + 1) mX4_forget P 0 [some (.ref v0), none] [] i r := by
  refine ok_iconst 0 dX4_forget_0 (by decide) ?_
  refine ok_istore_n 1 dX4_forget_1 rfl (by decide) [some (.ref v0), some (.int 0)] rfl ?_
  exact h

set_option maxRecDepth 100000 in
set_option maxHeartbeats 4000000 in
theorem sX4_forget_2 {G : o_G} {d : Nat} {P : o_P} {i : o_I} {r : o_R} (v0 : Nat) (v1 : Int32)
    (h : ((48 ≤ v1 → P none i r) ∧ (¬ 48 ≤ v1 → o_O G v0 4 ∧ o_Y G (r v0 0) 5 ∧ vp_in v1 (o_len G (r v0 0)) ∧ o_O G (r (r v0 0) v1.toNatClampNeg) 7 ∧ ∀ i6 : o_I, i6 = o_up i (r (r v0 0) v1.toNatClampNeg) 2 0 → o_Y G (r v0 1) 5 ∧ vp_in v1 (o_len G (r v0 1)) ∧ o_O G (r (r v0 1) v1.toNatClampNeg) 7 ∧ ∀ i10 : o_I, i10 = o_up i6 (r (r v0 1) v1.toNatClampNeg) 2 0 → ∀ x11 : Int32, x11 = v1 + 1 → Ok G (d + 1) mX4_forget P 2 [some (.ref v0), some (.int x11)] [] i10 r))) :
    Ok G (d + 1) mX4_forget P 2 [some (.ref v0), some (.int v1)] [] i r := by
  refine ok_iload_n 1 dX4_forget_2 rfl rfl ?_
  refine ok_bipush 48 dX4_forget_3 (by decide) ?_
  refine ok_ic_ge 34 dX4_forget_5 (by decide) (fun z1 => ?_) (fun z1 => ?_)
  · replace h := h.1 z1
    exact ok_vret dX4_forget_34 rfl h
  · replace h := h.2 z1
    refine ok_aload_n 0 dX4_forget_8 rfl rfl ?_
    obtain ⟨c2, h⟩ := h
    refine ok_getr 4 0 dX4_forget_9 f4_11 rfl c2 ?_
    refine ok_iload_n 1 dX4_forget_12 rfl rfl ?_
    obtain ⟨c3, h⟩ := h
    obtain ⟨c4, h⟩ := h
    refine ok_ald5 dX4_forget_13 c3 c4 ?_
    refine ok_iconst 0 dX4_forget_14 (by decide) ?_
    obtain ⟨c5, h⟩ := h
    refine ok_puti 7 2 .int dX4_forget_15 f4_21 rfl rfl (by decide +kernel) rfl rfl c5 ?_
    refine ok_nmi (fun i6 ei6 => ?_)
    replace h := h i6 ei6
    refine ok_aload_n 0 dX4_forget_18 rfl rfl ?_
    refine ok_getr 4 1 dX4_forget_19 f4_17 rfl c2 ?_
    refine ok_iload_n 1 dX4_forget_22 rfl rfl ?_
    obtain ⟨c7, h⟩ := h
    obtain ⟨c8, h⟩ := h
    refine ok_ald5 dX4_forget_23 c7 c8 ?_
    refine ok_iconst 0 dX4_forget_24 (by decide) ?_
    obtain ⟨c9, h⟩ := h
    refine ok_puti 7 2 .int dX4_forget_25 f4_21 rfl rfl (by decide +kernel) rfl rfl c9 ?_
    refine ok_nmi (fun i10 ei10 => ?_)
    replace h := h i10 ei10
    refine ok_eqi (v1 + 1) (fun x11 ex11 => ?_)
    replace h := h x11 ex11
    refine ok_iinc 1 x11 dX4_forget_28 rfl (by decide) ex11 (by decide) [some (.ref v0), some (.int x11)] rfl ?_
    refine ok_goto 2 dX4_forget_31 (by decide) ?_
    exact h

set_option maxRecDepth 100000 in
set_option maxHeartbeats 4000000 in
theorem sX4_gather_0 {G : o_G} {d : Nat} {P : o_P} {i : o_I} {r : o_R} (v0 : Nat) (v1 : Nat)
    (h : o_O G v1 5 ∧ ∀ x2 : Int32, x2 = (i v1 4) → Ok G (d + 1) mX4_gather P 22 [some (.ref v0), some (.ref v1), some (.int 0), some (.int x2), some (.int (-1)), some (.int (-1)), some (.int 0), some (.int 1), some (.int 0), none, none] [] i r) :
    Ok G (d + 1) mX4_gather P 0 [some (.ref v0), some (.ref v1), none, none, none, none, none, none, none, none, none] [] i r := by
  refine ok_iconst 0 dX4_gather_0 (by decide) ?_
  refine ok_istore_n 2 dX4_gather_1 rfl (by decide) [some (.ref v0), some (.ref v1), some (.int 0), none, none, none, none, none, none, none, none] rfl ?_
  refine ok_aload_n 1 dX4_gather_2 rfl rfl ?_
  obtain ⟨c1, h⟩ := h
  refine ok_geti 5 4 dX4_gather_3 f4_25 rfl c1 ?_
  refine ok_topi (fun x2 ex2 => ?_)
  replace h := h x2 ex2
  refine ok_istore_n 3 dX4_gather_6 rfl (by decide) [some (.ref v0), some (.ref v1), some (.int 0), some (.int x2), none, none, none, none, none, none, none] rfl ?_
  refine ok_iconst (-1) dX4_gather_7 (by decide) ?_
  refine ok_istore dX4_gather_8 (by decide) [some (.ref v0), some (.ref v1), some (.int 0), some (.int x2), some (.int (-1)), none, none, none, none, none, none] rfl ?_
  refine ok_iconst (-1) dX4_gather_10 (by decide) ?_
  refine ok_istore dX4_gather_11 (by decide) [some (.ref v0), some (.ref v1), some (.int 0), some (.int x2), some (.int (-1)), some (.int (-1)), none, none, none, none, none] rfl ?_
  refine ok_iconst 0 dX4_gather_13 (by decide) ?_
  refine ok_istore dX4_gather_14 (by decide) [some (.ref v0), some (.ref v1), some (.int 0), some (.int x2), some (.int (-1)), some (.int (-1)), some (.int 0), none, none, none, none] rfl ?_
  refine ok_iconst 1 dX4_gather_16 (by decide) ?_
  refine ok_istore dX4_gather_17 (by decide) [some (.ref v0), some (.ref v1), some (.int 0), some (.int x2), some (.int (-1)), some (.int (-1)), some (.int 0), some (.int 1), none, none, none] rfl ?_
  refine ok_iconst 0 dX4_gather_19 (by decide) ?_
  refine ok_istore dX4_gather_20 (by decide) [some (.ref v0), some (.ref v1), some (.int 0), some (.int x2), some (.int (-1)), some (.int (-1)), some (.int 0), some (.int 1), some (.int 0), none, none] rfl ?_
  exact h

set_option maxRecDepth 100000 in
set_option maxHeartbeats 4000000 in
theorem sX4_gather_22 {G : o_G} {d : Nat} {P : o_P} {i : o_I} {r : o_R} (v0 : Nat) (v1 : Nat) (v2 : Int32) (v3 : Int32) (v4 : Int32) (v5 : Int32) (v6 : Int32) (v7 : Int32) (v8 : Int32)
    (h : o_O G v1 5 ∧ (((i v1 9) ≤ v8 → P none i r) ∧ (¬ (i v1 9) ≤ v8 → SpI G d mX5_stepFromFront [.ref v1, .int v8] (fun x3 i3 => ((¬ x3 = 1 → ((¬ x3 = 2 → o_Y G (r v1 0) 1 ∧ vp_in v2 (o_len G (r v1 0)) ∧ SpI G d mX4_withLetter [.int v7, .int (i3 (r v1 0) v2.toNatClampNeg)] (fun x8 i8 => ∀ x9 : Int32, x9 = v2 + 1 → ∀ x10 : Int32, x10 = v8 + 1 → Ok G (d + 1) mX4_gather P 22 [some (.ref v0), some (.ref v1), some (.int x9), some (.int v3), some (.int v4), some (.int v5), some (.int v6), some (.int x8), some (.int x10), none, none] [] i8 r) i3 r) ∧ (x3 = 2 → ∀ x11 : Int32, x11 = v6 + 1 → ∀ x12 : Int32, x12 = v3 + 1 → ∀ x13 : Int32, x13 = v8 + 1 → Ok G (d + 1) mX4_gather P 22 [some (.ref v0), some (.ref v1), some (.int v2), some (.int x12), some (.int v4), some (.int v5), some (.int x11), some (.int v7), some (.int x13), none, none] [] i3 r))) ∧ (x3 = 1 → o_O G v0 4 ∧ SpV G d mX4_gatherBase [.ref v0, .ref v1, .int v2, .int v3] (fun i15 => ((v5 = (-1) → Ok G (d + 1) mX4_gather P 91 [some (.ref v0), some (.ref v1), some (.int v2), some (.int v3), none, none, none, none, some (.int v8), none, none] [] i15 r) ∧ (¬ v5 = (-1) → o_Y G (r v1 1) 1 ∧ vp_in v4 (o_len G (r v1 1)) ∧ vp_in v2 (o_len G (r v1 1)) ∧ ∀ x20 : Int32, x20 = (if (i15 (r v1 1) v2.toNatClampNeg) < (i15 (r v1 1) v4.toNatClampNeg) then (i15 (r v1 1) v2.toNatClampNeg) else (i15 (r v1 1) v4.toNatClampNeg)) → SpI G d mX4_linkOf [.int v6, .int v7] (fun x21 i21 => SpV G d mX4_gatherLink [.ref v0, .int v5, .int x21, .int x20] (fun i22 => Ok G (d + 1) mX4_gather P 91 [some (.ref v0), some (.ref v1), some (.int v2), some (.int v3), none, none, none, none, some (.int v8), none, none] [] i22 r) i21 r) i15 r))) i3 r))) i r))) :
    Ok G (d + 1) mX4_gather P 22 [some (.ref v0), some (.ref v1), some (.int v2), some (.int v3), some (.int v4), some (.int v5), some (.int v6), some (.int v7), some (.int v8), none, none] [] i r := by
  refine ok_iload dX4_gather_22 rfl ?_
  refine ok_aload_n 1 dX4_gather_24 rfl rfl ?_
  obtain ⟨c1, h⟩ := h
  refine ok_geti 5 9 dX4_gather_25 f4_30 rfl c1 ?_
  refine ok_ic_ge 149 dX4_gather_28 (by decide) (fun z2 => ?_) (fun z2 => ?_)
  · replace h := h.1 z2
    exact ok_vret dX4_gather_149 rfl h
  · replace h := h.2 z2
    refine ok_aload_n 1 dX4_gather_31 rfl rfl ?_
    refine ok_iload dX4_gather_32 rfl ?_
    refine ok_cVi (rest := []) o_rc 5 [.int v8] dX4_gather_34 k4_33 c1 rfl rfl (Nat.le_of_ble_eq_true rfl) h (fun x3 i3 h => ?_)
    refine ok_istore dX4_gather_37 (by decide) [some (.ref v0), some (.ref v1), some (.int v2), some (.int v3), some (.int v4), some (.int v5), some (.int v6), some (.int v7), some (.int v8), some (.int x3), none] rfl ?_
    refine ok_iload dX4_gather_39 rfl ?_
    refine ok_iconst 1 dX4_gather_41 (by decide) ?_
    refine ok_ic_ne 112 dX4_gather_42 (by decide) (fun z4 => ?_) (fun z4 => ?_)
    · replace h := h.1 z4
      refine ok_iload dX4_gather_112 rfl ?_
      refine ok_iconst 2 dX4_gather_114 (by decide) ?_
      refine ok_ic_ne 127 dX4_gather_115 (by decide) (fun z5 => ?_) (fun z5 => ?_)
      · replace h := h.1 z5
        refine ok_iload dX4_gather_127 rfl ?_
        refine ok_aload_n 1 dX4_gather_129 rfl rfl ?_
        refine ok_getr 5 0 dX4_gather_130 f4_58 rfl c1 ?_
        refine ok_iload_n 2 dX4_gather_133 rfl rfl ?_
        obtain ⟨c6, h⟩ := h
        obtain ⟨c7, h⟩ := h
        refine ok_iald dX4_gather_134 c6 c7 ?_
        refine ok_cSi (rest := []) o_rc [.int v7, .int (i3 (r v1 0) v2.toNatClampNeg)] dX4_gather_135 k4_61 rfl rfl (Nat.le_of_ble_eq_true rfl) h (fun x8 i8 h => ?_)
        refine ok_istore dX4_gather_138 (by decide) [some (.ref v0), some (.ref v1), some (.int v2), some (.int v3), some (.int v4), some (.int v5), some (.int v6), some (.int x8), some (.int v8), some (.int x3), none] rfl ?_
        refine ok_eqi (v2 + 1) (fun x9 ex9 => ?_)
        replace h := h x9 ex9
        refine ok_iinc 1 x9 dX4_gather_140 rfl (by decide) ex9 (by decide) [some (.ref v0), some (.ref v1), some (.int x9), some (.int v3), some (.int v4), some (.int v5), some (.int v6), some (.int x8), some (.int v8), some (.int x3), none] rfl ?_
        refine ok_eqi (v8 + 1) (fun x10 ex10 => ?_)
        replace h := h x10 ex10
        refine ok_iinc 1 x10 dX4_gather_143 rfl (by decide) ex10 (by decide) [some (.ref v0), some (.ref v1), some (.int x9), some (.int v3), some (.int v4), some (.int v5), some (.int v6), some (.int x8), some (.int x10), some (.int x3), none] rfl ?_
        refine ok_goto 22 dX4_gather_146 (by decide) ?_
        refine ok_wk [some (.ref v0), some (.ref v1), some (.int x9), some (.int v3), some (.int v4), some (.int v5), some (.int v6), some (.int x8), some (.int x10), none, none] ⟨rfl, rfl, rfl, rfl, rfl, rfl, rfl, rfl, rfl, trivial⟩ ?_
        exact h
      · replace h := h.2 z5
        refine ok_eqi (v6 + 1) (fun x11 ex11 => ?_)
        replace h := h x11 ex11
        refine ok_iinc 1 x11 dX4_gather_118 rfl (by decide) ex11 (by decide) [some (.ref v0), some (.ref v1), some (.int v2), some (.int v3), some (.int v4), some (.int v5), some (.int x11), some (.int v7), some (.int v8), some (.int x3), none] rfl ?_
        refine ok_eqi (v3 + 1) (fun x12 ex12 => ?_)
        replace h := h x12 ex12
        refine ok_iinc 1 x12 dX4_gather_121 rfl (by decide) ex12 (by decide) [some (.ref v0), some (.ref v1), some (.int v2), some (.int x12), some (.int v4), some (.int v5), some (.int x11), some (.int v7), some (.int v8), some (.int x3), none] rfl ?_
        refine ok_goto 143 dX4_gather_124 (by decide) ?_
        refine ok_eqi (v8 + 1) (fun x13 ex13 => ?_)
        replace h := h x13 ex13
        refine ok_iinc 1 x13 dX4_gather_143 rfl (by decide) ex13 (by decide) [some (.ref v0), some (.ref v1), some (.int v2), some (.int x12), some (.int v4), some (.int v5), some (.int x11), some (.int v7), some (.int x13), some (.int x3), none] rfl ?_
        refine ok_goto 22 dX4_gather_146 (by decide) ?_
        refine ok_wk [some (.ref v0), some (.ref v1), some (.int v2), some (.int x12), some (.int v4), some (.int v5), some (.int x11), some (.int v7), some (.int x13), none, none] ⟨rfl, rfl, rfl, rfl, rfl, rfl, rfl, rfl, rfl, trivial⟩ ?_
        exact h
    · replace h := h.2 z4
      refine ok_aload_n 0 dX4_gather_45 rfl rfl ?_
      refine ok_aload_n 1 dX4_gather_46 rfl rfl ?_
      refine ok_iload_n 2 dX4_gather_47 rfl rfl ?_
      refine ok_iload_n 3 dX4_gather_48 rfl rfl ?_
      obtain ⟨c14, h⟩ := h
      refine ok_cVv (rest := []) o_rc 4 [.ref v1, .int v2, .int v3] dX4_gather_49 k4_37 c14 rfl rfl (Nat.le_of_ble_eq_true rfl) h (fun i15 h => ?_)
      refine ok_iload dX4_gather_52 rfl ?_
      refine ok_iconst (-1) dX4_gather_54 (by decide) ?_
      refine ok_ic_eq 91 dX4_gather_55 (by decide) (fun z16 => ?_) (fun z16 => ?_)
      · replace h := h.1 z16
        refine ok_wk [some (.ref v0), some (.ref v1), some (.int v2), some (.int v3), none, none, none, none, some (.int v8), none, none] ⟨rfl, rfl, rfl, rfl, rfl, trivial⟩ ?_
        exact h
      · replace h := h.2 z16
        refine ok_aload_n 1 dX4_gather_58 rfl rfl ?_
        refine ok_getr 5 1 dX4_gather_59 f4_41 rfl c1 ?_
        refine ok_iload dX4_gather_62 rfl ?_
        obtain ⟨c17, h⟩ := h
        obtain ⟨c18, h⟩ := h
        refine ok_iald dX4_gather_64 c17 c18 ?_
        refine ok_aload_n 1 dX4_gather_65 rfl rfl ?_
        refine ok_getr 5 1 dX4_gather_66 f4_41 rfl c1 ?_
        refine ok_iload_n 2 dX4_gather_69 rfl rfl ?_
        obtain ⟨c19, h⟩ := h
        refine ok_iald dX4_gather_70 c17 c19 ?_
        refine ok_min o_rc dX4_gather_71 l4_45 w_min_2 w_math w_min_4 (Nat.le_of_ble_eq_true rfl) ?_
        refine ok_topi (fun x20 ex20 => ?_)
        replace h := h x20 ex20
        refine ok_istore dX4_gather_74 (by decide) [some (.ref v0), some (.ref v1), some (.int v2), some (.int v3), some (.int v4), some (.int v5), some (.int v6), some (.int v7), some (.int v8), some (.int x3), some (.int x20)] rfl ?_
        refine ok_aload_n 0 dX4_gather_76 rfl rfl ?_
        refine ok_iload dX4_gather_77 rfl ?_
        refine ok_iload dX4_gather_79 rfl ?_
        refine ok_iload dX4_gather_81 rfl ?_
        refine ok_cSi (rest := [.int v5, .ref v0]) o_rc [.int v6, .int v7] dX4_gather_83 k4_51 rfl rfl (Nat.le_of_ble_eq_true rfl) h (fun x21 i21 h => ?_)
        refine ok_iload dX4_gather_86 rfl ?_
        refine ok_cVv (rest := []) o_rc 4 [.int v5, .int x21, .int x20] dX4_gather_88 k4_54 c14 rfl rfl (Nat.le_of_ble_eq_true rfl) h (fun i22 h => ?_)
        refine ok_wk [some (.ref v0), some (.ref v1), some (.int v2), some (.int v3), none, none, none, none, some (.int v8), none, none] ⟨rfl, rfl, rfl, rfl, rfl, trivial⟩ ?_
        exact h

set_option maxRecDepth 100000 in
set_option maxHeartbeats 4000000 in
theorem sX4_gather_91 {G : o_G} {d : Nat} {P : o_P} {i : o_I} {r : o_R} (v0 : Nat) (v1 : Nat) (v2 : Int32) (v3 : Int32) (v8 : Int32)
    (h : ∀ x1 : Int32, x1 = v2 + 1 → ∀ x2 : Int32, x2 = v3 + 1 → ∀ x3 : Int32, x3 = v8 + 1 → Ok G (d + 1) mX4_gather P 22 [some (.ref v0), some (.ref v1), some (.int x1), some (.int x2), some (.int v2), some (.int v3), some (.int 0), some (.int 1), some (.int x3), none, none] [] i r) :
    Ok G (d + 1) mX4_gather P 91 [some (.ref v0), some (.ref v1), some (.int v2), some (.int v3), none, none, none, none, some (.int v8), none, none] [] i r := by
  refine ok_iload_n 2 dX4_gather_91 rfl rfl ?_
  refine ok_istore dX4_gather_92 (by decide) [some (.ref v0), some (.ref v1), some (.int v2), some (.int v3), some (.int v2), none, none, none, some (.int v8), none, none] rfl ?_
  refine ok_iload_n 3 dX4_gather_94 rfl rfl ?_
  refine ok_istore dX4_gather_95 (by decide) [some (.ref v0), some (.ref v1), some (.int v2), some (.int v3), some (.int v2), some (.int v3), none, none, some (.int v8), none, none] rfl ?_
  refine ok_iconst 0 dX4_gather_97 (by decide) ?_
  refine ok_istore dX4_gather_98 (by decide) [some (.ref v0), some (.ref v1), some (.int v2), some (.int v3), some (.int v2), some (.int v3), some (.int 0), none, some (.int v8), none, none] rfl ?_
  refine ok_iconst 1 dX4_gather_100 (by decide) ?_
  refine ok_istore dX4_gather_101 (by decide) [some (.ref v0), some (.ref v1), some (.int v2), some (.int v3), some (.int v2), some (.int v3), some (.int 0), some (.int 1), some (.int v8), none, none] rfl ?_
  refine ok_eqi (v2 + 1) (fun x1 ex1 => ?_)
  replace h := h x1 ex1
  refine ok_iinc 1 x1 dX4_gather_103 rfl (by decide) ex1 (by decide) [some (.ref v0), some (.ref v1), some (.int x1), some (.int v3), some (.int v2), some (.int v3), some (.int 0), some (.int 1), some (.int v8), none, none] rfl ?_
  refine ok_eqi (v3 + 1) (fun x2 ex2 => ?_)
  replace h := h x2 ex2
  refine ok_iinc 1 x2 dX4_gather_106 rfl (by decide) ex2 (by decide) [some (.ref v0), some (.ref v1), some (.int x1), some (.int x2), some (.int v2), some (.int v3), some (.int 0), some (.int 1), some (.int v8), none, none] rfl ?_
  refine ok_goto 143 dX4_gather_109 (by decide) ?_
  refine ok_eqi (v8 + 1) (fun x3 ex3 => ?_)
  replace h := h x3 ex3
  refine ok_iinc 1 x3 dX4_gather_143 rfl (by decide) ex3 (by decide) [some (.ref v0), some (.ref v1), some (.int x1), some (.int x2), some (.int v2), some (.int v3), some (.int 0), some (.int 1), some (.int x3), none, none] rfl ?_
  refine ok_goto 22 dX4_gather_146 (by decide) ?_
  exact h

set_option maxRecDepth 100000 in
set_option maxHeartbeats 4000000 in
theorem sX4_gatherBase_0 {G : o_G} {d : Nat} {P : o_P} {i : o_I} {r : o_R} (v0 : Nat) (v1 : Nat) (v2 : Int32) (v3 : Int32)
    (h : o_O G v1 5 ∧ o_Y G (r v1 0) 1 ∧ vp_in v2 (o_len G (r v1 0)) ∧ (((i (r v1 0) v2.toNatClampNeg) = 4 → P none i r) ∧ (¬ (i (r v1 0) v2.toNatClampNeg) = 4 → o_O G v0 4 ∧ o_Y G (r v0 0) 5 ∧ vp_in v3 (o_len G (r v0 0)) ∧ o_Y G (r v1 1) 1 ∧ vp_in v2 (o_len G (r v1 1)) ∧ o_O G (r (r v0 0) v3.toNatClampNeg) 7 ∧ SpV G d mX7_add [.ref (r (r v0 0) v3.toNatClampNeg), .int (i (r v1 0) v2.toNatClampNeg), .int (i (r v1 1) v2.toNatClampNeg)] (fun i11 => P none i11 r) i r))) :
    Ok G (d + 1) mX4_gatherBase P 0 [some (.ref v0), some (.ref v1), some (.int v2), some (.int v3)] [] i r := by
  refine ok_aload_n 1 dX4_gatherBase_0 rfl rfl ?_
  obtain ⟨c1, h⟩ := h
  refine ok_getr 5 0 dX4_gatherBase_1 f4_58 rfl c1 ?_
  refine ok_iload_n 2 dX4_gatherBase_4 rfl rfl ?_
  obtain ⟨c2, h⟩ := h
  obtain ⟨c3, h⟩ := h
  refine ok_iald dX4_gatherBase_5 c2 c3 ?_
  refine ok_iconst 4 dX4_gatherBase_6 (by decide) ?_
  refine ok_ic_eq 31 dX4_gatherBase_7 (by decide) (fun z4 => ?_) (fun z4 => ?_)
  · replace h := h.1 z4
    exact ok_vret dX4_gatherBase_31 rfl h
  · replace h := h.2 z4
    refine ok_aload_n 0 dX4_gatherBase_10 rfl rfl ?_
    obtain ⟨c5, h⟩ := h
    refine ok_getr 4 0 dX4_gatherBase_11 f4_11 rfl c5 ?_
    refine ok_iload_n 3 dX4_gatherBase_14 rfl rfl ?_
    obtain ⟨c6, h⟩ := h
    obtain ⟨c7, h⟩ := h
    refine ok_ald5 dX4_gatherBase_15 c6 c7 ?_
    refine ok_aload_n 1 dX4_gatherBase_16 rfl rfl ?_
    refine ok_getr 5 0 dX4_gatherBase_17 f4_58 rfl c1 ?_
    refine ok_iload_n 2 dX4_gatherBase_20 rfl rfl ?_
    refine ok_iald dX4_gatherBase_21 c2 c3 ?_
    refine ok_aload_n 1 dX4_gatherBase_22 rfl rfl ?_
    refine ok_getr 5 1 dX4_gatherBase_23 f4_41 rfl c1 ?_
    refine ok_iload_n 2 dX4_gatherBase_26 rfl rfl ?_
    obtain ⟨c8, h⟩ := h
    obtain ⟨c9, h⟩ := h
    refine ok_iald dX4_gatherBase_27 c8 c9 ?_
    obtain ⟨c10, h⟩ := h
    refine ok_cVv (rest := []) o_rc 7 [.int (i (r v1 0) v2.toNatClampNeg), .int (i (r v1 1) v2.toNatClampNeg)] dX4_gatherBase_28 k4_64 c10 rfl rfl (Nat.le_of_ble_eq_true rfl) h (fun i11 h => ?_)
    exact ok_vret dX4_gatherBase_31 rfl h

set_option maxRecDepth 100000 in
set_option maxHeartbeats 4000000 in
theorem sX4_gatherLink_0 {G : o_G} {d : Nat} {P : o_P} {i : o_I} {r : o_R} (v0 : Nat) (v1 : Int32) (v2 : Int32) (v3 : Int32)
    (h : ((v2 = (-1) → P none i r) ∧ (¬ v2 = (-1) → o_O G v0 4 ∧ o_Y G (r v0 1) 5 ∧ vp_in v1 (o_len G (r v0 1)) ∧ o_O G (r (r v0 1) v1.toNatClampNeg) 7 ∧ SpV G d mX7_add [.ref (r (r v0 1) v1.toNatClampNeg), .int v2, .int v3] (fun i6 => P none i6 r) i r))) :
    Ok G (d + 1) mX4_gatherLink P 0 [some (.ref v0), some (.int v1), some (.int v2), some (.int v3)] [] i r := by
  refine ok_iload_n 2 dX4_gatherLink_0 rfl rfl ?_
  refine ok_iconst (-1) dX4_gatherLink_1 (by decide) ?_
  refine ok_ic_eq 16 dX4_gatherLink_2 (by decide) (fun z1 => ?_) (fun z1 => ?_)
  · replace h := h.1 z1
    exact ok_vret dX4_gatherLink_16 rfl h
  · replace h := h.2 z1
    refine ok_aload_n 0 dX4_gatherLink_5 rfl rfl ?_
    obtain ⟨c2, h⟩ := h
    refine ok_getr 4 1 dX4_gatherLink_6 f4_17 rfl c2 ?_
    refine ok_iload_n 1 dX4_gatherLink_9 rfl rfl ?_
    obtain ⟨c3, h⟩ := h
    obtain ⟨c4, h⟩ := h
    refine ok_ald5 dX4_gatherLink_10 c3 c4 ?_
    refine ok_iload_n 2 dX4_gatherLink_11 rfl rfl ?_
    refine ok_iload_n 3 dX4_gatherLink_12 rfl rfl ?_
    obtain ⟨c5, h⟩ := h
    refine ok_cVv (rest := []) o_rc 7 [.int v2, .int v3] dX4_gatherLink_13 k4_64 c5 rfl rfl (Nat.le_of_ble_eq_true rfl) h (fun i6 h => ?_)
    exact ok_vret dX4_gatherLink_16 rfl h

set_option maxRecDepth 100000 in
set_option maxHeartbeats 4000000 in
theorem sX4_linkOf_0 {G : o_G} {d : Nat} {P : o_P} {i : o_I} {r : o_R} (v0 : Int32) (v1 : Int32)
    (h : ((¬ v1 = 1 → (∀ x4 : Int32, x4 = (if 0 < v0 then (-1) else (if v1 = 0 then (-1) else v1)) → P (some (.int x4)) i r)) ∧ (v1 = 1 → P (some (.int v0)) i r))) :
    Ok G (d + 1) mX4_linkOf P 0 [some (.int v0), some (.int v1)] [] i r := by
  refine ok_iload_n 1 dX4_linkOf_0 rfl rfl ?_
  refine ok_iconst 1 dX4_linkOf_1 (by decide) ?_
  refine ok_ic_ne 7 dX4_linkOf_2 (by decide) (fun z1 => ?_) (fun z1 => ?_)
  · replace h := h.1 z1
    refine ok_iload_n 0 dX4_linkOf_7 rfl rfl ?_
    have k5 : ∀ x4 : Int32, x4 = (if 0 < v0 then (-1) else (if v1 = 0 then (-1) else v1)) → Ok G (d + 1) mX4_linkOf P 20 [none, none] [.int x4] i r := by
      intro x4 ex4
      replace h := h x4 ex4
      exact ok_iret .int dX4_linkOf_20 rfl rfl h
    clear h
    refine ok_if_gt 15 dX4_linkOf_8 (by decide) (fun z2 => ?_) (fun z2 => ?_)
    · refine ok_iconst (-1) dX4_linkOf_15 (by decide) ?_
      refine ok_goto 20 dX4_linkOf_16 (by decide) ?_
      refine ok_wk [none, none] trivial ?_
      exact k5 ((-1)) (by simp only [if_pos z2])
    · refine ok_iload_n 1 dX4_linkOf_11 rfl rfl ?_
      refine ok_if_ne 19 dX4_linkOf_12 (by decide) (fun z3 => ?_) (fun z3 => ?_)
      · refine ok_iload_n 1 dX4_linkOf_19 rfl rfl ?_
        refine ok_wk [none, none] trivial ?_
        exact k5 (v1) (by simp only [if_neg z2, if_neg z3])
      · refine ok_iconst (-1) dX4_linkOf_15 (by decide) ?_
        refine ok_goto 20 dX4_linkOf_16 (by decide) ?_
        refine ok_wk [none, none] trivial ?_
        exact k5 ((-1)) (by simp only [if_neg z2, if_pos z3])
  · replace h := h.2 z1
    refine ok_iload_n 0 dX4_linkOf_5 rfl rfl ?_
    exact ok_iret .int dX4_linkOf_6 rfl rfl h

set_option maxRecDepth 100000 in
set_option maxHeartbeats 4000000 in
theorem sX4_withLetter_0 {G : o_G} {d : Nat} {P : o_P} {i : o_I} {r : o_R} (v0 : Int32) (v1 : Int32)
    (h : (∀ x3 : Int32, x3 = (if v0 = 0 then 0 else (if v1 = 4 then 0 else ((v0 * 4) + v1))) → P (some (.int x3)) i r)) :
    Ok G (d + 1) mX4_withLetter P 0 [some (.int v0), some (.int v1)] [] i r := by
  refine ok_iload_n 0 dX4_withLetter_0 rfl rfl ?_
  have k4 : ∀ x3 : Int32, x3 = (if v0 = 0 then 0 else (if v1 = 4 then 0 else ((v0 * 4) + v1))) → Ok G (d + 1) mX4_withLetter P 18 [none, none] [.int x3] i r := by
    intro x3 ex3
    replace h := h x3 ex3
    exact ok_iret .int dX4_withLetter_18 rfl rfl h
  clear h
  refine ok_if_eq 9 dX4_withLetter_1 (by decide) (fun z1 => ?_) (fun z1 => ?_)
  · refine ok_iconst 0 dX4_withLetter_9 (by decide) ?_
    refine ok_goto 18 dX4_withLetter_10 (by decide) ?_
    refine ok_wk [none, none] trivial ?_
    exact k4 (0) (by simp only [if_pos z1])
  · refine ok_iload_n 1 dX4_withLetter_4 rfl rfl ?_
    refine ok_iconst 4 dX4_withLetter_5 (by decide) ?_
    refine ok_ic_ne 13 dX4_withLetter_6 (by decide) (fun z2 => ?_) (fun z2 => ?_)
    · refine ok_iload_n 0 dX4_withLetter_13 rfl rfl ?_
      refine ok_iconst 4 dX4_withLetter_14 (by decide) ?_
      refine ok_imul dX4_withLetter_15 ?_
      refine ok_iload_n 1 dX4_withLetter_16 rfl rfl ?_
      refine ok_iadd dX4_withLetter_17 ?_
      refine ok_wk [none, none] trivial ?_
      exact k4 (((v0 * 4) + v1)) (by simp only [if_neg z1, if_neg z2])
    · refine ok_iconst 0 dX4_withLetter_9 (by decide) ?_
      refine ok_goto 18 dX4_withLetter_10 (by decide) ?_
      refine ok_wk [none, none] trivial ?_
      exact k4 (0) (by simp only [if_neg z1, if_pos z2])

set_option maxRecDepth 100000 in
set_option maxHeartbeats 4000000 in
theorem sX5_opposite_0 {G : o_G} {d : Nat} {P : o_P} {i : o_I} {r : o_R} (v0 : Int32)
    (h : (∀ x2 : Int32, x2 = (if v0 = 4 then 4 else (3 - v0)) → P (some (.int x2)) i r)) :
    Ok G (d + 1) mX5_opposite P 0 [some (.int v0)] [] i r := by
  refine ok_iload_n 0 dX5_opposite_0 rfl rfl ?_
  refine ok_iconst 4 dX5_opposite_1 (by decide) ?_
  have k3 : ∀ x2 : Int32, x2 = (if v0 = 4 then 4 else (3 - v0)) → Ok G (d + 1) mX5_opposite P 12 [none] [.int x2] i r := by
    intro x2 ex2
    replace h := h x2 ex2
    exact ok_iret .int dX5_opposite_12 rfl rfl h
  clear h
  refine ok_ic_ne 9 dX5_opposite_2 (by decide) (fun z1 => ?_) (fun z1 => ?_)
  · refine ok_iconst 3 dX5_opposite_9 (by decide) ?_
    refine ok_iload_n 0 dX5_opposite_10 rfl rfl ?_
    refine ok_isub dX5_opposite_11 ?_
    refine ok_wk [none] trivial ?_
    exact k3 ((3 - v0)) (by simp only [if_neg z1])
  · refine ok_iconst 4 dX5_opposite_5 (by decide) ?_
    refine ok_goto 12 dX5_opposite_6 (by decide) ?_
    refine ok_wk [none] trivial ?_
    exact k3 (4) (by simp only [if_pos z1])

set_option maxRecDepth 100000 in
set_option maxHeartbeats 4000000 in
theorem sX5_stepFromFront_0 {G : o_G} {d : Nat} {P : o_P} {i : o_I} {r : o_R} (v0 : Nat) (v1 : Int32)
    (h : ((v1 < 0 → True) ∧ (¬ v1 < 0 → o_O G v0 5 ∧ ((v1 < (i v0 9) → o_Y G (r v0 8) 1 ∧ vp_in (((i v0 9) - 1) - v1) (o_len G (r v0 8)) ∧ True) ∧ (¬ v1 < (i v0 9) → True)))) ∧ (∀ x6 : Int32, x6 = (if v1 < 0 then 0 else (if v1 < (i v0 9) then (i (r v0 8) (((i v0 9) - 1) - v1).toNatClampNeg) else 0)) → P (some (.int x6)) i r)) :
    Ok G (d + 1) mX5_stepFromFront P 0 [some (.ref v0), some (.int v1)] [] i r := by
  refine ok_iload_n 1 dX5_stepFromFront_0 rfl rfl ?_
  obtain ⟨hs, h⟩ := h
  have k7 : ∀ x6 : Int32, x6 = (if v1 < 0 then 0 else (if v1 < (i v0 9) then (i (r v0 8) (((i v0 9) - 1) - v1).toNatClampNeg) else 0)) → Ok G (d + 1) mX5_stepFromFront P 29 [none, none] [.int x6] i r := by
    intro x6 ex6
    replace h := h x6 ex6
    exact ok_iret .int dX5_stepFromFront_29 rfl rfl h
  clear h
  refine ok_if_lt 12 dX5_stepFromFront_1 (by decide) (fun z1 => ?_) (fun z1 => ?_)
  · replace hs := hs.1 z1
    refine ok_iconst 0 dX5_stepFromFront_12 (by decide) ?_
    refine ok_goto 29 dX5_stepFromFront_13 (by decide) ?_
    refine ok_wk [none, none] trivial ?_
    exact k7 (0) (by simp only [if_pos z1])
  · replace hs := hs.2 z1
    refine ok_iload_n 1 dX5_stepFromFront_4 rfl rfl ?_
    refine ok_aload_n 0 dX5_stepFromFront_5 rfl rfl ?_
    obtain ⟨c2, hs⟩  := hs
    refine ok_geti 5 9 dX5_stepFromFront_6 f5_41 rfl c2 ?_
    refine ok_ic_lt 16 dX5_stepFromFront_9 (by decide) (fun z3 => ?_) (fun z3 => ?_)
    · replace hs := hs.1 z3
      refine ok_aload_n 0 dX5_stepFromFront_16 rfl rfl ?_
      refine ok_getr 5 8 dX5_stepFromFront_17 f5_38 rfl c2 ?_
      refine ok_aload_n 0 dX5_stepFromFront_20 rfl rfl ?_
      refine ok_geti 5 9 dX5_stepFromFront_21 f5_41 rfl c2 ?_
      refine ok_iconst 1 dX5_stepFromFront_24 (by decide) ?_
      refine ok_isub dX5_stepFromFront_25 ?_
      refine ok_iload_n 1 dX5_stepFromFront_26 rfl rfl ?_
      refine ok_isub dX5_stepFromFront_27 ?_
      obtain ⟨c4, hs⟩  := hs
      obtain ⟨c5, hs⟩  := hs
      refine ok_iald dX5_stepFromFront_28 c4 c5 ?_
      refine ok_wk [none, none] trivial ?_
      exact k7 ((i (r v0 8) (((i v0 9) - 1) - v1).toNatClampNeg)) (by simp only [if_neg z1, if_pos z3])
    · replace hs := hs.2 z3
      refine ok_iconst 0 dX5_stepFromFront_12 (by decide) ?_
      refine ok_goto 29 dX5_stepFromFront_13 (by decide) ?_
      refine ok_wk [none, none] trivial ?_
      exact k7 (0) (by simp only [if_neg z1, if_neg z3])


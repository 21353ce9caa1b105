set_option maxRecDepth 100000 in
set_option maxHeartbeats 4000000 in
theorem sX5_turn_0 {G : o_G} {d : Nat} {P : o_P} {i : o_I} {r : o_R} (v0 : Nat)
    (h : o_O G v0 5 ∧ ∀ x2 : Int32, x2 = ((i v0 2) - 1) → Ok G (d + 1) mX5_turn P 9 [some (.ref v0), some (.int x2), some (.int 0), none, none] [] i r) :
    Ok G (d + 1) mX5_turn P 0 [some (.ref v0), none, none, none, none] [] i r := by
  refine ok_aload_n 0 dX5_turn_0 rfl rfl ?_
  obtain ⟨c1, h⟩ := h
  refine ok_geti 5 2 dX5_turn_1 f5_18 rfl c1 ?_
  refine ok_iconst 1 dX5_turn_4 (by decide) ?_
  refine ok_isub dX5_turn_5 ?_
  refine ok_topi (fun x2 ex2 => ?_)
  replace h := h x2 ex2
  refine ok_istore_n 1 dX5_turn_6 rfl (by decide) [some (.ref v0), some (.int x2), none, none, none] rfl ?_
  refine ok_iconst 0 dX5_turn_7 (by decide) ?_
  refine ok_istore_n 2 dX5_turn_8 rfl (by decide) [some (.ref v0), some (.int x2), some (.int 0), none, none] rfl ?_
  exact h

set_option maxRecDepth 100000 in
set_option maxHeartbeats 4000000 in
theorem sX5_turn_9 {G : o_G} {d : Nat} {P : o_P} {i : o_I} {r : o_R} (v0 : Nat) (v1 : Int32) (v2 : Int32)
    (h : ((v1 < v2 → P none i r) ∧ (¬ v1 < v2 → o_O G v0 5 ∧ o_Y G (r v0 0) 1 ∧ vp_in v2 (o_len G (r v0 0)) ∧ SpI G d mX5_opposite [.int (i (r v0 0) v2.toNatClampNeg)] (fun x5 i5 => vp_in v1 (o_len G (r v0 0)) ∧ SpI G d mX5_opposite [.int (i5 (r v0 0) v1.toNatClampNeg)] (fun x7 i7 => ∀ i8 : o_I, i8 = o_up i7 (r v0 0) v2.toNatClampNeg x7 → ∀ i9 : o_I, i9 = o_up i8 (r v0 0) v1.toNatClampNeg x5 → o_Y G (r v0 1) 1 ∧ vp_in v2 (o_len G (r v0 1)) ∧ ∀ x12 : Int32, x12 = (i9 (r v0 1) v2.toNatClampNeg) → vp_in v1 (o_len G (r v0 1)) ∧ ∀ i14 : o_I, i14 = o_up i9 (r v0 1) v2.toNatClampNeg (i9 (r v0 1) v1.toNatClampNeg) → ∀ i15 : o_I, i15 = o_up i14 (r v0 1) v1.toNatClampNeg x12 → ∀ x16 : Int32, x16 = v1 + (-1) → ∀ x17 : Int32, x17 = v2 + 1 → Ok G (d + 1) mX5_turn P 9 [some (.ref v0), some (.int x16), some (.int x17), none, none] [] i15 r) i5 r) i r))) :
    Ok G (d + 1) mX5_turn P 9 [some (.ref v0), some (.int v1), some (.int v2), none, none] [] i r := by
  refine ok_iload_n 2 dX5_turn_9 rfl rfl ?_
  refine ok_iload_n 1 dX5_turn_10 rfl rfl ?_
  refine ok_ic_gt 83 dX5_turn_11 (by decide) (fun z1 => ?_) (fun z1 => ?_)
  · replace h := h.1 z1
    exact ok_vret dX5_turn_83 rfl h
  · replace h := h.2 z1
    refine ok_aload_n 0 dX5_turn_14 rfl rfl ?_
    obtain ⟨c2, h⟩ := h
    refine ok_getr 5 0 dX5_turn_15 f5_9 rfl c2 ?_
    refine ok_iload_n 2 dX5_turn_18 rfl rfl ?_
    obtain ⟨c3, h⟩ := h
    obtain ⟨c4, h⟩ := h
    refine ok_iald dX5_turn_19 c3 c4 ?_
    refine ok_cSi (rest := []) o_rc [.int (i (r v0 0) v2.toNatClampNeg)] dX5_turn_20 k5_44 rfl rfl (Nat.le_of_ble_eq_true rfl) h (fun x5 i5 h => ?_)
    refine ok_istore_n 3 dX5_turn_23 rfl (by decide) [some (.ref v0), some (.int v1), some (.int v2), some (.int x5), none] rfl ?_
    refine ok_aload_n 0 dX5_turn_24 rfl rfl ?_
    refine ok_getr 5 0 dX5_turn_25 f5_9 rfl c2 ?_
    refine ok_iload_n 2 dX5_turn_28 rfl rfl ?_
    refine ok_aload_n 0 dX5_turn_29 rfl rfl ?_
    refine ok_getr 5 0 dX5_turn_30 f5_9 rfl c2 ?_
    refine ok_iload_n 1 dX5_turn_33 rfl rfl ?_
    obtain ⟨c6, h⟩ := h
    refine ok_iald dX5_turn_34 c3 c6 ?_
    refine ok_cSi (rest := [.int v2, .ref (r v0 0)]) o_rc [.int (i5 (r v0 0) v1.toNatClampNeg)] dX5_turn_35 k5_44 rfl rfl (Nat.le_of_ble_eq_true rfl) h (fun x7 i7 h => ?_)
    refine ok_iast dX5_turn_38 c3 c4 ?_
    refine ok_nmi (fun i8 ei8 => ?_)
    replace h := h i8 ei8
    refine ok_aload_n 0 dX5_turn_39 rfl rfl ?_
    refine ok_getr 5 0 dX5_turn_40 f5_9 rfl c2 ?_
    refine ok_iload_n 1 dX5_turn_43 rfl rfl ?_
    refine ok_iload_n 3 dX5_turn_44 rfl rfl ?_
    refine ok_iast dX5_turn_45 c3 c6 ?_
    refine ok_nmi (fun i9 ei9 => ?_)
    replace h := h i9 ei9
    refine ok_aload_n 0 dX5_turn_46 rfl rfl ?_
    refine ok_getr 5 1 dX5_turn_47 f5_15 rfl c2 ?_
    refine ok_iload_n 2 dX5_turn_50 rfl rfl ?_
    obtain ⟨c10, h⟩ := h
    obtain ⟨c11, h⟩ := h
    refine ok_iald dX5_turn_51 c10 c11 ?_
    refine ok_topi (fun x12 ex12 => ?_)
    replace h := h x12 ex12
    refine ok_istore dX5_turn_52 (by decide) [some (.ref v0), some (.int v1), some (.int v2), some (.int x5), some (.int x12)] rfl ?_
    refine ok_aload_n 0 dX5_turn_54 rfl rfl ?_
    refine ok_getr 5 1 dX5_turn_55 f5_15 rfl c2 ?_
    refine ok_iload_n 2 dX5_turn_58 rfl rfl ?_
    refine ok_aload_n 0 dX5_turn_59 rfl rfl ?_
    refine ok_getr 5 1 dX5_turn_60 f5_15 rfl c2 ?_
    refine ok_iload_n 1 dX5_turn_63 rfl rfl ?_
    obtain ⟨c13, h⟩ := h
    refine ok_iald dX5_turn_64 c10 c13 ?_
    refine ok_iast dX5_turn_65 c10 c11 ?_
    refine ok_nmi (fun i14 ei14 => ?_)
    replace h := h i14 ei14
    refine ok_aload_n 0 dX5_turn_66 rfl rfl ?_
    refine ok_getr 5 1 dX5_turn_67 f5_15 rfl c2 ?_
    refine ok_iload_n 1 dX5_turn_70 rfl rfl ?_
    refine ok_iload dX5_turn_71 rfl ?_
    refine ok_iast dX5_turn_73 c10 c13 ?_
    refine ok_nmi (fun i15 ei15 => ?_)
    replace h := h i15 ei15
    refine ok_eqi (v1 + (-1)) (fun x16 ex16 => ?_)
    replace h := h x16 ex16
    refine ok_iinc (-1) x16 dX5_turn_74 rfl (by decide) ex16 (by decide) [some (.ref v0), some (.int x16), some (.int v2), some (.int x5), some (.int x12)] rfl ?_
    refine ok_eqi (v2 + 1) (fun x17 ex17 => ?_)
    replace h := h x17 ex17
    refine ok_iinc 1 x17 dX5_turn_77 rfl (by decide) ex17 (by decide) [some (.ref v0), some (.int x16), some (.int x17), some (.int x5), some (.int x12)] rfl ?_
    refine ok_goto 9 dX5_turn_80 (by decide) ?_
    refine ok_wk [some (.ref v0), some (.int x16), some (.int x17), none, none] ⟨rfl, rfl, rfl, trivial⟩ ?_
    exact h

set_option maxRecDepth 100000 in
set_option maxHeartbeats 4000000 in
theorem sX7_add_0 {G : o_G} {d : Nat} {P : o_P} {i : o_I} {r : o_R} (v0 : Nat) (v1 : Int32) (v2 : Int32)
    (h : o_O G v0 7 ∧ ((8 ≤ (i v0 2) → P none i r) ∧ (¬ 8 ≤ (i v0 2) → o_Y G (r v0 0) 1 ∧ vp_in (i v0 2) (o_len G (r v0 0)) ∧ ∀ i5 : o_I, i5 = o_up i (r v0 0) (i v0 2).toNatClampNeg v1 → o_Y G (r v0 1) 1 ∧ vp_in (i5 v0 2) (o_len G (r v0 1)) ∧ ∀ i8 : o_I, i8 = o_up i5 (r v0 1) (i5 v0 2).toNatClampNeg v2 → ∀ i9 : o_I, i9 = o_up i8 v0 2 ((i8 v0 2) + 1) → P none i9 r))) :
    Ok G (d + 1) mX7_add P 0 [some (.ref v0), some (.int v1), some (.int v2)] [] i r := by
  refine ok_aload_n 0 dX7_add_0 rfl rfl ?_
  obtain ⟨c1, h⟩ := h
  refine ok_geti 7 2 dX7_add_1 f7_18 rfl c1 ?_
  refine ok_bipush 8 dX7_add_4 (by decide) ?_
  refine ok_ic_ge 39 dX7_add_6 (by decide) (fun z2 => ?_) (fun z2 => ?_)
  · replace h := h.1 z2
    exact ok_vret dX7_add_39 rfl h
  · replace h := h.2 z2
    refine ok_aload_n 0 dX7_add_9 rfl rfl ?_
    refine ok_getr 7 0 dX7_add_10 f7_9 rfl c1 ?_
    refine ok_aload_n 0 dX7_add_13 rfl rfl ?_
    refine ok_geti 7 2 dX7_add_14 f7_18 rfl c1 ?_
    refine ok_iload_n 1 dX7_add_17 rfl rfl ?_
    obtain ⟨c3, h⟩ := h
    obtain ⟨c4, h⟩ := h
    refine ok_iast dX7_add_18 c3 c4 ?_
    refine ok_nmi (fun i5 ei5 => ?_)
    replace h := h i5 ei5
    refine ok_aload_n 0 dX7_add_19 rfl rfl ?_
    refine ok_getr 7 1 dX7_add_20 f7_15 rfl c1 ?_
    refine ok_aload_n 0 dX7_add_23 rfl rfl ?_
    refine ok_geti 7 2 dX7_add_24 f7_18 rfl c1 ?_
    refine ok_iload_n 2 dX7_add_27 rfl rfl ?_
    obtain ⟨c6, h⟩ := h
    obtain ⟨c7, h⟩ := h
    refine ok_iast dX7_add_28 c6 c7 ?_
    refine ok_nmi (fun i8 ei8 => ?_)
    replace h := h i8 ei8
    refine ok_aload_n 0 dX7_add_29 rfl rfl ?_
    refine ok_dup dX7_add_30 rfl ?_
    refine ok_geti 7 2 dX7_add_31 f7_18 rfl c1 ?_
    refine ok_iconst 1 dX7_add_34 (by decide) ?_
    refine ok_iadd dX7_add_35 ?_
    refine ok_puti 7 2 .int dX7_add_36 f7_18 rfl rfl (by decide +kernel) rfl rfl c1 ?_
    refine ok_nmi (fun i9 ei9 => ?_)
    replace h := h i9 ei9
    exact ok_vret dX7_add_39 rfl h

set_option maxRecDepth 100000 in
set_option maxHeartbeats 4000000 in
theorem sX7_countOf_0 {G : o_G} {d : Nat} {P : o_P} {i : o_I} {r : o_R} (v0 : Nat) (v1 : Int32)
    (h : Ok G (d + 1) mX7_countOf P 4 [some (.ref v0), some (.int v1), some (.int 0), some (.int 0)] [] i r) :
    Ok G (d + 1) mX7_countOf P 0 [some (.ref v0), some (.int v1), none, none] [] i r := by
  refine ok_iconst 0 dX7_countOf_0 (by decide) ?_
  refine ok_istore_n 2 dX7_countOf_1 rfl (by decide) [some (.ref v0), some (.int v1), some (.int 0), none] rfl ?_
  refine ok_iconst 0 dX7_countOf_2 (by decide) ?_
  refine ok_istore_n 3 dX7_countOf_3 rfl (by decide) [some (.ref v0), some (.int v1), some (.int 0), some (.int 0)] rfl ?_
  exact h

set_option maxRecDepth 100000 in
set_option maxHeartbeats 4000000 in
theorem sX7_countOf_4 {G : o_G} {d : Nat} {P : o_P} {i : o_I} {r : o_R} (v0 : Nat) (v1 : Int32) (v2 : Int32) (v3 : Int32)
    (h : o_O G v0 7 ∧ (((i v0 2) ≤ v3 → P (some (.int v2)) i r) ∧ (¬ (i v0 2) ≤ v3 → o_Y G (r v0 0) 1 ∧ vp_in v3 (o_len G (r v0 0)) ∧ (∀ x7 : Int32, x7 = (if (i (r v0 0) v3.toNatClampNeg) = v1 then (v2 + 1) else v2) → ∀ x8 : Int32, x8 = v3 + 1 → Ok G (d + 1) mX7_countOf P 4 [some (.ref v0), some (.int v1), some (.int x7), some (.int x8)] [] i r)))) :
    Ok G (d + 1) mX7_countOf P 4 [some (.ref v0), some (.int v1), some (.int v2), some (.int v3)] [] i r := by
  refine ok_iload_n 3 dX7_countOf_4 rfl rfl ?_
  refine ok_aload_n 0 dX7_countOf_5 rfl rfl ?_
  obtain ⟨c1, h⟩ := h
  refine ok_geti 7 2 dX7_countOf_6 f7_18 rfl c1 ?_
  refine ok_ic_ge 31 dX7_countOf_9 (by decide) (fun z2 => ?_) (fun z2 => ?_)
  · replace h := h.1 z2
    refine ok_iload_n 2 dX7_countOf_31 rfl rfl ?_
    exact ok_iret .int dX7_countOf_32 rfl rfl h
  · replace h := h.2 z2
    refine ok_aload_n 0 dX7_countOf_12 rfl rfl ?_
    refine ok_getr 7 0 dX7_countOf_13 f7_9 rfl c1 ?_
    refine ok_iload_n 3 dX7_countOf_16 rfl rfl ?_
    obtain ⟨c3, h⟩ := h
    obtain ⟨c4, h⟩ := h
    refine ok_iald dX7_countOf_17 c3 c4 ?_
    refine ok_iload_n 1 dX7_countOf_18 rfl rfl ?_
    have k9 : ∀ x7 : Int32, x7 = (if (i (r v0 0) v3.toNatClampNeg) = v1 then (v2 + 1) else v2) → Ok G (d + 1) mX7_countOf P 25 [some (.ref v0), some (.int v1), some (.int x7), some (.int v3)] [] i r := by
      intro x7 ex7
      replace h := h x7 ex7
      refine ok_eqi (v3 + 1) (fun x8 ex8 => ?_)
      replace h := h x8 ex8
      refine ok_iinc 1 x8 dX7_countOf_25 rfl (by decide) ex8 (by decide) [some (.ref v0), some (.int v1), some (.int x7), some (.int x8)] rfl ?_
      refine ok_goto 4 dX7_countOf_28 (by decide) ?_
      exact h
    clear h
    refine ok_ic_ne 25 dX7_countOf_19 (by decide) (fun z5 => ?_) (fun z5 => ?_)
    · exact k9 (v2) (by simp only [if_neg z5])
    · refine ok_iinc 1 (v2 + 1) dX7_countOf_22 rfl (by decide) rfl (by decide) [some (.ref v0), some (.int v1), some (.int (v2 + 1)), some (.int v3)] rfl ?_
      exact k9 ((v2 + 1)) (by simp only [if_pos z5])

set_option maxRecDepth 100000 in
set_option maxHeartbeats 4000000 in
theorem sX7_countOfKind_0 {G : o_G} {d : Nat} {P : o_P} {i : o_I} {r : o_R} (v0 : Nat) (v1 : Int32)
    (h : Ok G (d + 1) mX7_countOfKind P 4 [some (.ref v0), some (.int v1), some (.int 0), some (.int 0)] [] i r) :
    Ok G (d + 1) mX7_countOfKind P 0 [some (.ref v0), some (.int v1), none, none] [] i r := by
  refine ok_iconst 0 dX7_countOfKind_0 (by decide) ?_
  refine ok_istore_n 2 dX7_countOfKind_1 rfl (by decide) [some (.ref v0), some (.int v1), some (.int 0), none] rfl ?_
  refine ok_iconst 0 dX7_countOfKind_2 (by decide) ?_
  refine ok_istore_n 3 dX7_countOfKind_3 rfl (by decide) [some (.ref v0), some (.int v1), some (.int 0), some (.int 0)] rfl ?_
  exact h

set_option maxRecDepth 100000 in
set_option maxHeartbeats 4000000 in
theorem sX7_countOfKind_4 {G : o_G} {d : Nat} {P : o_P} {i : o_I} {r : o_R} (v0 : Nat) (v1 : Int32) (v2 : Int32) (v3 : Int32)
    (h : o_O G v0 7 ∧ (((i v0 2) ≤ v3 → P (some (.int v2)) i r) ∧ (¬ (i v0 2) ≤ v3 → o_Y G (r v0 0) 1 ∧ vp_in v3 (o_len G (r v0 0)) ∧ SpI G d mX7_kindOf [.int (i (r v0 0) v3.toNatClampNeg)] (fun x5 i5 => (∀ x8 : Int32, x8 = (if x5 = v1 then (v2 + 1) else v2) → ∀ x9 : Int32, x9 = v3 + 1 → Ok G (d + 1) mX7_countOfKind P 4 [some (.ref v0), some (.int v1), some (.int x8), some (.int x9)] [] i5 r)) i r))) :
    Ok G (d + 1) mX7_countOfKind P 4 [some (.ref v0), some (.int v1), some (.int v2), some (.int v3)] [] i r := by
  refine ok_iload_n 3 dX7_countOfKind_4 rfl rfl ?_
  refine ok_aload_n 0 dX7_countOfKind_5 rfl rfl ?_
  obtain ⟨c1, h⟩ := h
  refine ok_geti 7 2 dX7_countOfKind_6 f7_18 rfl c1 ?_
  refine ok_ic_ge 34 dX7_countOfKind_9 (by decide) (fun z2 => ?_) (fun z2 => ?_)
  · replace h := h.1 z2
    refine ok_iload_n 2 dX7_countOfKind_34 rfl rfl ?_
    exact ok_iret .int dX7_countOfKind_35 rfl rfl h
  · replace h := h.2 z2
    refine ok_aload_n 0 dX7_countOfKind_12 rfl rfl ?_
    refine ok_getr 7 0 dX7_countOfKind_13 f7_9 rfl c1 ?_
    refine ok_iload_n 3 dX7_countOfKind_16 rfl rfl ?_
    obtain ⟨c3, h⟩ := h
    obtain ⟨c4, h⟩ := h
    refine ok_iald dX7_countOfKind_17 c3 c4 ?_
    refine ok_cSi (rest := []) o_rc [.int (i (r v0 0) v3.toNatClampNeg)] dX7_countOfKind_18 k7_22 rfl rfl (Nat.le_of_ble_eq_true rfl) h (fun x5 i5 h => ?_)
    refine ok_iload_n 1 dX7_countOfKind_21 rfl rfl ?_
    have k10 : ∀ x8 : Int32, x8 = (if x5 = v1 then (v2 + 1) else v2) → Ok G (d + 1) mX7_countOfKind P 28 [some (.ref v0), some (.int v1), some (.int x8), some (.int v3)] [] i5 r := by
      intro x8 ex8
      replace h := h x8 ex8
      refine ok_eqi (v3 + 1) (fun x9 ex9 => ?_)
      replace h := h x9 ex9
      refine ok_iinc 1 x9 dX7_countOfKind_28 rfl (by decide) ex9 (by decide) [some (.ref v0), some (.int v1), some (.int x8), some (.int x9)] rfl ?_
      refine ok_goto 4 dX7_countOfKind_31 (by decide) ?_
      exact h
    clear h
    refine ok_ic_ne 28 dX7_countOfKind_22 (by decide) (fun z6 => ?_) (fun z6 => ?_)
    · exact k10 (v2) (by simp only [if_neg z6])
    · refine ok_iinc 1 (v2 + 1) dX7_countOfKind_25 rfl (by decide) rfl (by decide) [some (.ref v0), some (.int v1), some (.int (v2 + 1)), some (.int v3)] rfl ?_
      exact k10 ((v2 + 1)) (by simp only [if_pos z6])

set_option maxRecDepth 100000 in
set_option maxHeartbeats 4000000 in
theorem sX7_kindOf_0 {G : o_G} {d : Nat} {P : o_P} {i : o_I} {r : o_R} (v0 : Int32)
    (h : ((¬ v0 = 0 → (∀ x3 : Int32, x3 = (if 4 ≤ v0 then 2 else 1) → P (some (.int x3)) i r)) ∧ (v0 = 0 → P (some (.int 0)) i r))) :
    Ok G (d + 1) mX7_kindOf P 0 [some (.int v0)] [] i r := by
  refine ok_iload_n 0 dX7_kindOf_0 rfl rfl ?_
  refine ok_if_ne 6 dX7_kindOf_1 (by decide) (fun z1 => ?_) (fun z1 => ?_)
  · replace h := h.1 z1
    refine ok_iload_n 0 dX7_kindOf_6 rfl rfl ?_
    refine ok_iconst 4 dX7_kindOf_7 (by decide) ?_
    have k4 : ∀ x3 : Int32, x3 = (if 4 ≤ v0 then 2 else 1) → Ok G (d + 1) mX7_kindOf P 16 [none] [.int x3] i r := by
      intro x3 ex3
      replace h := h x3 ex3
      exact ok_iret .int dX7_kindOf_16 rfl rfl h
    clear h
    refine ok_ic_ge 15 dX7_kindOf_8 (by decide) (fun z2 => ?_) (fun z2 => ?_)
    · refine ok_iconst 2 dX7_kindOf_15 (by decide) ?_
      refine ok_wk [none] trivial ?_
      exact k4 (2) (by simp only [if_pos z2])
    · refine ok_iconst 1 dX7_kindOf_11 (by decide) ?_
      refine ok_goto 16 dX7_kindOf_12 (by decide) ?_
      refine ok_wk [none] trivial ?_
      exact k4 (1) (by simp only [if_neg z2])
  · replace h := h.2 z1
    refine ok_iconst 0 dX7_kindOf_4 (by decide) ?_
    exact ok_iret .int dX7_kindOf_5 rfl rfl h

set_option maxRecDepth 100000 in
set_option maxHeartbeats 4000000 in
theorem sX8_greatestLoss_0 {G : o_G} {d : Nat} {P : o_P} {i : o_I} {r : o_R} (v0 : Nat)
    (h : Ok G (d + 1) mX8_greatestLoss P 4 [some (.ref v0), some (.int 0), some (.int 1)] [] i r) :
    Ok G (d + 1) mX8_greatestLoss P 0 [some (.ref v0), none, none] [] i r := by
  refine ok_iconst 0 dX8_greatestLoss_0 (by decide) ?_
  refine ok_istore_n 1 dX8_greatestLoss_1 rfl (by decide) [some (.ref v0), some (.int 0), none] rfl ?_
  refine ok_iconst 1 dX8_greatestLoss_2 (by decide) ?_
  refine ok_istore_n 2 dX8_greatestLoss_3 rfl (by decide) [some (.ref v0), some (.int 0), some (.int 1)] rfl ?_
  exact h

set_option maxRecDepth 100000 in
set_option maxHeartbeats 4000000 in
theorem sX8_greatestLoss_4 {G : o_G} {d : Nat} {P : o_P} {i : o_I} {r : o_R} (v0 : Nat) (v1 : Int32) (v2 : Int32)
    (h : o_O G v0 2 ∧ (((i v0 2) ≤ v2 → P (some (.int v1)) i r) ∧ (¬ (i v0 2) ≤ v2 → o_Y G (r v0 0) 1 ∧ vp_in v2 (o_len G (r v0 0)) ∧ (∀ x6 : Int32, x6 = (if 4 ≤ (i (r v0 0) v2.toNatClampNeg) then v1 else (if v1 < (i (r v0 0) v2.toNatClampNeg) then (i (r v0 0) v2.toNatClampNeg) else v1)) → ∀ x7 : Int32, x7 = v2 + 1 → Ok G (d + 1) mX8_greatestLoss P 4 [some (.ref v0), some (.int x6), some (.int x7)] [] i r)))) :
    Ok G (d + 1) mX8_greatestLoss P 4 [some (.ref v0), some (.int v1), some (.int v2)] [] i r := by
  refine ok_iload_n 2 dX8_greatestLoss_4 rfl rfl ?_
  refine ok_aload_n 0 dX8_greatestLoss_5 rfl rfl ?_
  obtain ⟨c1, h⟩ := h
  refine ok_geti 2 2 dX8_greatestLoss_6 f8_47 rfl c1 ?_
  refine ok_ic_ge 39 dX8_greatestLoss_9 (by decide) (fun z2 => ?_) (fun z2 => ?_)
  · replace h := h.1 z2
    refine ok_iload_n 1 dX8_greatestLoss_39 rfl rfl ?_
    exact ok_iret .int dX8_greatestLoss_40 rfl rfl h
  · replace h := h.2 z2
    refine ok_aload_n 0 dX8_greatestLoss_12 rfl rfl ?_
    refine ok_getr 2 0 dX8_greatestLoss_13 f8_31 rfl c1 ?_
    refine ok_iload_n 2 dX8_greatestLoss_16 rfl rfl ?_
    obtain ⟨c3, h⟩ := h
    obtain ⟨c4, h⟩ := h
    refine ok_iald dX8_greatestLoss_17 c3 c4 ?_
    refine ok_iconst 4 dX8_greatestLoss_18 (by decide) ?_
    have k8 : ∀ x6 : Int32, x6 = (if 4 ≤ (i (r v0 0) v2.toNatClampNeg) then v1 else (if v1 < (i (r v0 0) v2.toNatClampNeg) then (i (r v0 0) v2.toNatClampNeg) else v1)) → Ok G (d + 1) mX8_greatestLoss P 33 [some (.ref v0), some (.int x6), some (.int v2)] [] i r := by
      intro x6 ex6
      replace h := h x6 ex6
      refine ok_eqi (v2 + 1) (fun x7 ex7 => ?_)
      replace h := h x7 ex7
      refine ok_iinc 1 x7 dX8_greatestLoss_33 rfl (by decide) ex7 (by decide) [some (.ref v0), some (.int x6), some (.int x7)] rfl ?_
      refine ok_goto 4 dX8_greatestLoss_36 (by decide) ?_
      exact h
    clear h
    refine ok_ic_ge 33 dX8_greatestLoss_19 (by decide) (fun z5 => ?_) (fun z5 => ?_)
    · exact k8 (v1) (by simp only [if_pos z5])
    · refine ok_iload_n 1 dX8_greatestLoss_22 rfl rfl ?_
      refine ok_aload_n 0 dX8_greatestLoss_23 rfl rfl ?_
      refine ok_getr 2 0 dX8_greatestLoss_24 f8_31 rfl c1 ?_
      refine ok_iload_n 2 dX8_greatestLoss_27 rfl rfl ?_
      refine ok_iald dX8_greatestLoss_28 c3 c4 ?_
      refine ok_max o_rc dX8_greatestLoss_29 l8_70 w_max_2 w_math w_max_4 (Nat.le_of_ble_eq_true rfl) ?_
      refine ok_istore_n 1 dX8_greatestLoss_32 rfl (by decide) [some (.ref v0), some (.int (if v1 < (i (r v0 0) v2.toNatClampNeg) then (i (r v0 0) v2.toNatClampNeg) else v1)), some (.int v2)] rfl ?_
      exact k8 ((if v1 < (i (r v0 0) v2.toNatClampNeg) then (i (r v0 0) v2.toNatClampNeg) else v1)) (by simp only [if_neg z5])

set_option maxRecDepth 100000 in
set_option maxHeartbeats 4000000 in
theorem sX8_write_0 {G : o_G} {d : Nat} {P : o_P} {i : o_I} {r : o_R} (v0 : Nat) (v1 : Int32)
    (h : o_O G v0 8 ∧ o_Y G (r v0 0) 2 ∧ (((nI (o_len G (r v0 0))) ≤ (i v0 1) → P none i r) ∧ (¬ (nI (o_len G (r v0 0))) ≤ (i v0 1) → vp_in (i v0 1) (o_len G (r v0 0)) ∧ ∀ i5 : o_I, i5 = o_up i (r v0 0) (i v0 1).toNatClampNeg (vp_nar .char v1) → ∀ i6 : o_I, i6 = o_up i5 v0 1 ((i5 v0 1) + 1) → P none i6 r))) :
    Ok G (d + 1) mX8_write P 0 [some (.ref v0), some (.int v1)] [] i r := by
  refine ok_aload_n 0 dX8_write_0 rfl rfl ?_
  obtain ⟨c1, h⟩ := h
  refine ok_geti 8 1 dX8_write_1 f8_15 rfl c1 ?_
  refine ok_aload_n 0 dX8_write_4 rfl rfl ?_
  refine ok_getr 8 0 dX8_write_5 f8_11 rfl c1 ?_
  obtain ⟨c2, h⟩ := h
  refine ok_alen2 dX8_write_8 c2 ?_
  refine ok_ic_ge 32 dX8_write_9 (by decide) (fun z3 => ?_) (fun z3 => ?_)
  · replace h := h.1 z3
    exact ok_vret dX8_write_32 rfl h
  · replace h := h.2 z3
    refine ok_aload_n 0 dX8_write_12 rfl rfl ?_
    refine ok_getr 8 0 dX8_write_13 f8_11 rfl c1 ?_
    refine ok_aload_n 0 dX8_write_16 rfl rfl ?_
    refine ok_geti 8 1 dX8_write_17 f8_15 rfl c1 ?_
    refine ok_iload_n 1 dX8_write_20 rfl rfl ?_
    obtain ⟨c4, h⟩ := h
    refine ok_cast dX8_write_21 c2 c4 ?_
    refine ok_nmi (fun i5 ei5 => ?_)
    replace h := h i5 ei5
    refine ok_aload_n 0 dX8_write_22 rfl rfl ?_
    refine ok_dup dX8_write_23 rfl ?_
    refine ok_geti 8 1 dX8_write_24 f8_15 rfl c1 ?_
    refine ok_iconst 1 dX8_write_27 (by decide) ?_
    refine ok_iadd dX8_write_28 ?_
    refine ok_puti 8 1 .int dX8_write_29 f8_15 rfl rfl (by decide +kernel) rfl rfl c1 ?_
    refine ok_nmi (fun i6 ei6 => ?_)
    replace h := h i6 ei6
    exact ok_vret dX8_write_32 rfl h

set_option maxRecDepth 100000 in
set_option maxHeartbeats 4000000 in
theorem sX8_writeComma_0 {G : o_G} {d : Nat} {P : o_P} {i : o_I} {r : o_R} (v0 : Nat) (v1 : Int32)
    (h : ((v1 = 0 → P none i r) ∧ (¬ v1 = 0 → o_O G v0 8 ∧ SpV G d mX8_write [.ref v0, .int 44] (fun i3 => P none i3 r) i r))) :
    Ok G (d + 1) mX8_writeComma P 0 [some (.ref v0), some (.int v1)] [] i r := by
  refine ok_iload_n 1 dX8_writeComma_0 rfl rfl ?_
  refine ok_if_eq 10 dX8_writeComma_1 (by decide) (fun z1 => ?_) (fun z1 => ?_)
  · replace h := h.1 z1
    exact ok_vret dX8_writeComma_10 rfl h
  · replace h := h.2 z1
    refine ok_aload_n 0 dX8_writeComma_4 rfl rfl ?_
    refine ok_bipush 44 dX8_writeComma_5 (by decide) ?_
    obtain ⟨c2, h⟩ := h
    refine ok_cVv (rest := []) o_rc 8 [.int 44] dX8_writeComma_7 k8_43 c2 rfl rfl (Nat.le_of_ble_eq_true rfl) h (fun i3 h => ?_)
    exact ok_vret dX8_writeComma_10 rfl h

set_option maxRecDepth 100000 in
set_option maxHeartbeats 4000000 in
theorem sX8_writeLink_0 {G : o_G} {d : Nat} {P : o_P} {i : o_I} {r : o_R} (v0 : Nat) (v1 : Nat) (v2 : Int32) (v3 : Int32) (v4 : Int32)
    (h : o_O G v0 8 ∧ SpV G d mX8_writeBases [.ref v0, .ref v1, .int v2, .int v2] (fun i2 => ((4 ≤ v4 → SpV G d mX8_writeGain [.ref v0, .int v4] (fun i4 => SpV G d mX8_writeBases [.ref v0, .ref v1, .int (v2 + 1), .int (v2 + v3)] (fun i5 => P none i5 r) i4 r) i2 r) ∧ (¬ 4 ≤ v4 → SpV G d mX8_writeBases [.ref v0, .ref v1, .int ((v2 + v4) + 1), .int (v2 + v3)] (fun i6 => P none i6 r) i2 r))) i r) :
    Ok G (d + 1) mX8_writeLink P 0 [some (.ref v0), some (.ref v1), some (.int v2), some (.int v3), some (.int v4)] [] i r := by
  refine ok_aload_n 0 dX8_writeLink_0 rfl rfl ?_
  refine ok_aload_n 1 dX8_writeLink_1 rfl rfl ?_
  refine ok_iload_n 2 dX8_writeLink_2 rfl rfl ?_
  refine ok_iload_n 2 dX8_writeLink_3 rfl rfl ?_
  obtain ⟨c1, h⟩ := h
  refine ok_cVv (rest := []) o_rc 8 [.ref v1, .int v2, .int v2] dX8_writeLink_4 k8_62 c1 rfl rfl (Nat.le_of_ble_eq_true rfl) h (fun i2 h => ?_)
  refine ok_iload dX8_writeLink_7 rfl ?_
  refine ok_iconst 4 dX8_writeLink_9 (by decide) ?_
  refine ok_ic_ge 30 dX8_writeLink_10 (by decide) (fun z3 => ?_) (fun z3 => ?_)
  · replace h := h.1 z3
    refine ok_aload_n 0 dX8_writeLink_30 rfl rfl ?_
    refine ok_iload dX8_writeLink_31 rfl ?_
    refine ok_cVv (rest := []) o_rc 8 [.int v4] dX8_writeLink_33 k8_90 c1 rfl rfl (Nat.le_of_ble_eq_true rfl) h (fun i4 h => ?_)
    refine ok_aload_n 0 dX8_writeLink_36 rfl rfl ?_
    refine ok_aload_n 1 dX8_writeLink_37 rfl rfl ?_
    refine ok_iload_n 2 dX8_writeLink_38 rfl rfl ?_
    refine ok_iconst 1 dX8_writeLink_39 (by decide) ?_
    refine ok_iadd dX8_writeLink_40 ?_
    refine ok_iload_n 2 dX8_writeLink_41 rfl rfl ?_
    refine ok_iload_n 3 dX8_writeLink_42 rfl rfl ?_
    refine ok_iadd dX8_writeLink_43 ?_
    refine ok_cVv (rest := []) o_rc 8 [.ref v1, .int (v2 + 1), .int (v2 + v3)] dX8_writeLink_44 k8_62 c1 rfl rfl (Nat.le_of_ble_eq_true rfl) h (fun i5 h => ?_)
    exact ok_vret dX8_writeLink_47 rfl h
  · replace h := h.2 z3
    refine ok_aload_n 0 dX8_writeLink_13 rfl rfl ?_
    refine ok_aload_n 1 dX8_writeLink_14 rfl rfl ?_
    refine ok_iload_n 2 dX8_writeLink_15 rfl rfl ?_
    refine ok_iload dX8_writeLink_16 rfl ?_
    refine ok_iadd dX8_writeLink_18 ?_
    refine ok_iconst 1 dX8_writeLink_19 (by decide) ?_
    refine ok_iadd dX8_writeLink_20 ?_
    refine ok_iload_n 2 dX8_writeLink_21 rfl rfl ?_
    refine ok_iload_n 3 dX8_writeLink_22 rfl rfl ?_
    refine ok_iadd dX8_writeLink_23 ?_
    refine ok_cVv (rest := []) o_rc 8 [.ref v1, .int ((v2 + v4) + 1), .int (v2 + v3)] dX8_writeLink_24 k8_62 c1 rfl rfl (Nat.le_of_ble_eq_true rfl) h (fun i6 h => ?_)
    refine ok_goto 47 dX8_writeLink_27 (by decide) ?_
    exact ok_vret dX8_writeLink_47 rfl h

set_option maxRecDepth 100000 in
set_option maxHeartbeats 4000000 in
theorem sX8_writeLinkSite_0 {G : o_G} {d : Nat} {P : o_P} {i : o_I} {r : o_R} (v0 : Nat) (v1 : Nat) (v2 : Int32) (v3 : Nat)
    (h : SpI G d mX8_greatestLoss [.ref v3] (fun x1 i1 => o_O G v0 8 ∧ SpV G d mX8_writePosition [.ref v0, .ref v1, .int v2] (fun i3 => SpV G d mX8_writeBases [.ref v0, .ref v1, .int v2, .int (v2 + x1)] (fun i4 => SpV G d mX8_write [.ref v0, .int 9] (fun i5 => Ok G (d + 1) mX8_writeLinkSite P 31 [some (.ref v0), some (.ref v1), some (.int v2), some (.ref v3), some (.int x1), some (.int 1)] [] i5 r) i4 r) i3 r) i1 r) i r) :
    Ok G (d + 1) mX8_writeLinkSite P 0 [some (.ref v0), some (.ref v1), some (.int v2), some (.ref v3), none, none] [] i r := by
  refine ok_aload_n 3 dX8_writeLinkSite_0 rfl rfl ?_
  refine ok_cSi (rest := []) o_rc [.ref v3] dX8_writeLinkSite_1 k8_58 rfl rfl (Nat.le_of_ble_eq_true rfl) h (fun x1 i1 h => ?_)
  refine ok_istore dX8_writeLinkSite_4 (by decide) [some (.ref v0), some (.ref v1), some (.int v2), some (.ref v3), some (.int x1), none] rfl ?_
  refine ok_aload_n 0 dX8_writeLinkSite_6 rfl rfl ?_
  refine ok_aload_n 1 dX8_writeLinkSite_7 rfl rfl ?_
  refine ok_iload_n 2 dX8_writeLinkSite_8 rfl rfl ?_
  obtain ⟨c2, h⟩ := h
  refine ok_cVv (rest := []) o_rc 8 [.ref v1, .int v2] dX8_writeLinkSite_9 k8_25 c2 rfl rfl (Nat.le_of_ble_eq_true rfl) h (fun i3 h => ?_)
  refine ok_aload_n 0 dX8_writeLinkSite_12 rfl rfl ?_
  refine ok_aload_n 1 dX8_writeLinkSite_13 rfl rfl ?_
  refine ok_iload_n 2 dX8_writeLinkSite_14 rfl rfl ?_
  refine ok_iload_n 2 dX8_writeLinkSite_15 rfl rfl ?_
  refine ok_iload dX8_writeLinkSite_16 rfl ?_
  refine ok_iadd dX8_writeLinkSite_18 ?_
  refine ok_cVv (rest := []) o_rc 8 [.ref v1, .int v2, .int (v2 + x1)] dX8_writeLinkSite_19 k8_62 c2 rfl rfl (Nat.le_of_ble_eq_true rfl) h (fun i4 h => ?_)
  refine ok_aload_n 0 dX8_writeLinkSite_22 rfl rfl ?_
  refine ok_bipush 9 dX8_writeLinkSite_23 (by decide) ?_
  refine ok_cVv (rest := []) o_rc 8 [.int 9] dX8_writeLinkSite_25 k8_43 c2 rfl rfl (Nat.le_of_ble_eq_true rfl) h (fun i5 h => ?_)
  refine ok_iconst 1 dX8_writeLinkSite_28 (by decide) ?_
  refine ok_istore dX8_writeLinkSite_29 (by decide) [some (.ref v0), some (.ref v1), some (.int v2), some (.ref v3), some (.int x1), some (.int 1)] rfl ?_
  exact h

set_option maxRecDepth 100000 in
set_option maxHeartbeats 4000000 in
theorem sX8_writeLinkSite_31 {G : o_G} {d : Nat} {P : o_P} {i : o_I} {r : o_R} (v0 : Nat) (v1 : Nat) (v2 : Int32) (v3 : Nat) (v4 : Int32) (v5 : Int32)
    (h : o_O G v3 2 ∧ (((i v3 2) ≤ v5 → o_O G v0 8 ∧ SpV G d mX8_writeJudgement [.ref v0, .ref v3] (fun i4 => P none i4 r) i r) ∧ (¬ (i v3 2) ≤ v5 → (∀ x6 : Int32, x6 = (if v5 ≤ 1 then 0 else 1) → o_O G v0 8 ∧ SpV G d mX8_writeComma [.ref v0, .int x6] (fun i8 => o_Y G (r v3 0) 1 ∧ vp_in v5 (o_len G (r v3 0)) ∧ SpV G d mX8_writeLink [.ref v0, .ref v1, .int v2, .int v4, .int (i8 (r v3 0) v5.toNatClampNeg)] (fun i11 => ∀ x12 : Int32, x12 = v5 + 1 → Ok G (d + 1) mX8_writeLinkSite P 31 [some (.ref v0), some (.ref v1), some (.int v2), some (.ref v3), some (.int v4), some (.int x12)] [] i11 r) i8 r) i r)))) :
    Ok G (d + 1) mX8_writeLinkSite P 31 [some (.ref v0), some (.ref v1), some (.int v2), some (.ref v3), some (.int v4), some (.int v5)] [] i r := by
  refine ok_iload dX8_writeLinkSite_31 rfl ?_
  refine ok_aload_n 3 dX8_writeLinkSite_33 rfl rfl ?_
  obtain ⟨c1, h⟩ := h
  refine ok_geti 2 2 dX8_writeLinkSite_34 f8_47 rfl c1 ?_
  refine ok_ic_ge 76 dX8_writeLinkSite_37 (by decide) (fun z2 => ?_) (fun z2 => ?_)
  · replace h := h.1 z2
    refine ok_aload_n 0 dX8_writeLinkSite_76 rfl rfl ?_
    refine ok_aload_n 3 dX8_writeLinkSite_77 rfl rfl ?_
    obtain ⟨c3, h⟩ := h
    refine ok_cVv (rest := []) o_rc 8 [.ref v3] dX8_writeLinkSite_78 k8_54 c3 rfl rfl (Nat.le_of_ble_eq_true rfl) h (fun i4 h => ?_)
    exact ok_vret dX8_writeLinkSite_81 rfl h
  · replace h := h.2 z2
    refine ok_aload_n 0 dX8_writeLinkSite_40 rfl rfl ?_
    refine ok_iload dX8_writeLinkSite_41 rfl ?_
    refine ok_iconst 1 dX8_writeLinkSite_43 (by decide) ?_
    have k13 : ∀ x6 : Int32, x6 = (if v5 ≤ 1 then 0 else 1) → Ok G (d + 1) mX8_writeLinkSite P 52 [some (.ref v0), some (.ref v1), some (.int v2), some (.ref v3), some (.int v4), some (.int v5)] [.int x6, .ref v0] i r := by
      intro x6 ex6
      replace h := h x6 ex6
      obtain ⟨c7, h⟩ := h
      refine ok_cVv (rest := []) o_rc 8 [.int x6] dX8_writeLinkSite_52 k8_50 c7 rfl rfl (Nat.le_of_ble_eq_true rfl) h (fun i8 h => ?_)
      refine ok_aload_n 0 dX8_writeLinkSite_55 rfl rfl ?_
      refine ok_aload_n 1 dX8_writeLinkSite_56 rfl rfl ?_
      refine ok_iload_n 2 dX8_writeLinkSite_57 rfl rfl ?_
      refine ok_iload dX8_writeLinkSite_58 rfl ?_
      refine ok_aload_n 3 dX8_writeLinkSite_60 rfl rfl ?_
      refine ok_getr 2 0 dX8_writeLinkSite_61 f8_31 rfl c1 ?_
      refine ok_iload dX8_writeLinkSite_64 rfl ?_
      obtain ⟨c9, h⟩ := h
      obtain ⟨c10, h⟩ := h
      refine ok_iald dX8_writeLinkSite_66 c9 c10 ?_
      refine ok_cVv (rest := []) o_rc 8 [.ref v1, .int v2, .int v4, .int (i8 (r v3 0) v5.toNatClampNeg)] dX8_writeLinkSite_67 k8_66 c7 rfl rfl (Nat.le_of_ble_eq_true rfl) h (fun i11 h => ?_)
      refine ok_eqi (v5 + 1) (fun x12 ex12 => ?_)
      replace h := h x12 ex12
      refine ok_iinc 1 x12 dX8_writeLinkSite_70 rfl (by decide) ex12 (by decide) [some (.ref v0), some (.ref v1), some (.int v2), some (.ref v3), some (.int v4), some (.int x12)] rfl ?_
      refine ok_goto 31 dX8_writeLinkSite_73 (by decide) ?_
      exact h
    clear h
    refine ok_ic_le 51 dX8_writeLinkSite_44 (by decide) (fun z5 => ?_) (fun z5 => ?_)
    · refine ok_iconst 0 dX8_writeLinkSite_51 (by decide) ?_
      exact k13 (0) (by simp only [if_pos z5])
    · refine ok_iconst 1 dX8_writeLinkSite_47 (by decide) ?_
      refine ok_goto 52 dX8_writeLinkSite_48 (by decide) ?_
      exact k13 (1) (by simp only [if_neg z5])

set_option maxRecDepth 100000 in
set_option maxHeartbeats 4000000 in
theorem sX8_writeNumber_0 {G : o_G} {d : Nat} {P : o_P} {i : o_I} {r : o_R} (v0 : Nat) (v1 : Int32)
    (h : Ok G (d + 1) mX8_writeNumber P 2 [some (.ref v0), some (.int v1), some (.int 1), none] [] i r) :
    Ok G (d + 1) mX8_writeNumber P 0 [some (.ref v0), some (.int v1), none, none] [] i r := by
  refine ok_iconst 1 dX8_writeNumber_0 (by decide) ?_
  refine ok_istore_n 2 dX8_writeNumber_1 rfl (by decide) [some (.ref v0), some (.int v1), some (.int 1), none] rfl ?_
  exact h

set_option maxRecDepth 100000 in
set_option maxHeartbeats 4000000 in
theorem sX8_writeNumber_2 {G : o_G} {d : Nat} {P : o_P} {i : o_I} {r : o_R} (v0 : Nat) (v1 : Int32) (v2 : Int32)
    (h : (((v1 / 10) < v2 → Ok G (d + 1) mX8_writeNumber P 27 [some (.ref v0), some (.int v1), none, some (.int v2)] [] i r) ∧ (¬ (v1 / 10) < v2 → ((1000 ≤ v2 → Ok G (d + 1) mX8_writeNumber P 27 [some (.ref v0), some (.int v1), none, some (.int v2)] [] i r) ∧ (¬ 1000 ≤ v2 → ∀ x3 : Int32, x3 = (v2 * 10) → Ok G (d + 1) mX8_writeNumber P 2 [some (.ref v0), some (.int v1), some (.int x3), none] [] i r))))) :
    Ok G (d + 1) mX8_writeNumber P 2 [some (.ref v0), some (.int v1), some (.int v2), none] [] i r := by
  refine ok_iload_n 2 dX8_writeNumber_2 rfl rfl ?_
  refine ok_iload_n 1 dX8_writeNumber_3 rfl rfl ?_
  refine ok_bipush 10 dX8_writeNumber_4 (by decide) ?_
  refine ok_idiv dX8_writeNumber_6 (by decide) ?_
  refine ok_ic_gt 25 dX8_writeNumber_7 (by decide) (fun z1 => ?_) (fun z1 => ?_)
  · replace h := h.1 z1
    refine ok_iload_n 2 dX8_writeNumber_25 rfl rfl ?_
    refine ok_istore_n 3 dX8_writeNumber_26 rfl (by decide) [some (.ref v0), some (.int v1), some (.int v2), some (.int v2)] rfl ?_
    refine ok_wk [some (.ref v0), some (.int v1), none, some (.int v2)] ⟨rfl, rfl, rfl, trivial⟩ ?_
    exact h
  · replace h := h.2 z1
    refine ok_iload_n 2 dX8_writeNumber_10 rfl rfl ?_
    refine ok_sipush 1000 dX8_writeNumber_11 (by decide) ?_
    refine ok_ic_ge 25 dX8_writeNumber_14 (by decide) (fun z2 => ?_) (fun z2 => ?_)
    · replace h := h.1 z2
      refine ok_iload_n 2 dX8_writeNumber_25 rfl rfl ?_
      refine ok_istore_n 3 dX8_writeNumber_26 rfl (by decide) [some (.ref v0), some (.int v1), some (.int v2), some (.int v2)] rfl ?_
      refine ok_wk [some (.ref v0), some (.int v1), none, some (.int v2)] ⟨rfl, rfl, rfl, trivial⟩ ?_
      exact h
    · replace h := h.2 z2
      refine ok_iload_n 2 dX8_writeNumber_17 rfl rfl ?_
      refine ok_bipush 10 dX8_writeNumber_18 (by decide) ?_
      refine ok_imul dX8_writeNumber_20 ?_
      refine ok_topi (fun x3 ex3 => ?_)
      replace h := h x3 ex3
      refine ok_istore_n 2 dX8_writeNumber_21 rfl (by decide) [some (.ref v0), some (.int v1), some (.int x3), none] rfl ?_
      refine ok_goto 2 dX8_writeNumber_22 (by decide) ?_
      exact h

set_option maxRecDepth 100000 in
set_option maxHeartbeats 4000000 in
theorem sX8_writeNumber_27 {G : o_G} {d : Nat} {P : o_P} {i : o_I} {r : o_R} (v0 : Nat) (v1 : Int32) (v3 : Int32)
    (h : ((v3 ≤ 0 → P none i r) ∧ (¬ v3 ≤ 0 → ¬ v3 = 0 ∧ o_O G v0 8 ∧ SpV G d mX8_write [.ref v0, .int (((48 + ((v1 / v3) - (v1 / v3) / 10 * 10)) : Int32).toUInt32 % 65536).toInt32] (fun i4 => ∀ x5 : Int32, x5 = (v3 / 10) → Ok G (d + 1) mX8_writeNumber P 27 [some (.ref v0), some (.int v1), none, some (.int x5)] [] i4 r) i r))) :
    Ok G (d + 1) mX8_writeNumber P 27 [some (.ref v0), some (.int v1), none, some (.int v3)] [] i r := by
  refine ok_iload_n 3 dX8_writeNumber_27 rfl rfl ?_
  refine ok_if_le 53 dX8_writeNumber_28 (by decide) (fun z1 => ?_) (fun z1 => ?_)
  · replace h := h.1 z1
    exact ok_vret dX8_writeNumber_53 rfl h
  · replace h := h.2 z1
    refine ok_aload_n 0 dX8_writeNumber_31 rfl rfl ?_
    refine ok_bipush 48 dX8_writeNumber_32 (by decide) ?_
    refine ok_iload_n 1 dX8_writeNumber_34 rfl rfl ?_
    refine ok_iload_n 3 dX8_writeNumber_35 rfl rfl ?_
    obtain ⟨c2, h⟩ := h
    refine ok_idiv dX8_writeNumber_36 c2 ?_
    refine ok_bipush 10 dX8_writeNumber_37 (by decide) ?_
    refine ok_irem dX8_writeNumber_39 (by decide) ?_
    refine ok_iadd dX8_writeNumber_40 ?_
    refine ok_i2c dX8_writeNumber_41 ?_
    obtain ⟨c3, h⟩ := h
    refine ok_cVv (rest := []) o_rc 8 [.int (((48 + ((v1 / v3) - (v1 / v3) / 10 * 10)) : Int32).toUInt32 % 65536).toInt32] dX8_writeNumber_42 k8_43 c3 rfl rfl (Nat.le_of_ble_eq_true rfl) h (fun i4 h => ?_)
    refine ok_iload_n 3 dX8_writeNumber_45 rfl rfl ?_
    refine ok_bipush 10 dX8_writeNumber_46 (by decide) ?_
    refine ok_idiv dX8_writeNumber_48 (by decide) ?_
    refine ok_topi (fun x5 ex5 => ?_)
    replace h := h x5 ex5
    refine ok_istore_n 3 dX8_writeNumber_49 rfl (by decide) [some (.ref v0), some (.int v1), none, some (.int x5)] rfl ?_
    refine ok_goto 27 dX8_writeNumber_50 (by decide) ?_
    exact h

set_option maxRecDepth 100000 in
set_option maxHeartbeats 4000000 in
theorem sX9_allowed_0 {G : o_G} {d : Nat} {P : o_P} {i : o_I} {r : o_R} (v0 : Int32)
    (h : (∀ x4 : Int32, x4 = (if v0 = 10 then 1 else (if v0 < 32 then 0 else (if 126 < v0 then 0 else 1))) → (x4 = 0 ∨ x4 = 1) ∧ P (some (.int x4)) i r)) :
    Ok G (d + 1) mX9_allowed P 0 [some (.int v0)] [] i r := by
  refine ok_iload_n 0 dX9_allowed_0 rfl rfl ?_
  refine ok_bipush 10 dX9_allowed_1 (by decide) ?_
  have k6 : ∀ x4 : Int32, x4 = (if v0 = 10 then 1 else (if v0 < 32 then 0 else (if 126 < v0 then 0 else 1))) → Ok G (d + 1) mX9_allowed P 23 [none] [.int x4] i r := by
    intro x4 ex4
    replace h := h x4 ex4
    obtain ⟨c5, h⟩ := h
    exact ok_iret .boolean dX9_allowed_23 rfl (o_bool c5).1 h
  clear h
  refine ok_ic_eq 18 dX9_allowed_3 (by decide) (fun z1 => ?_) (fun z1 => ?_)
  · refine ok_iconst 1 dX9_allowed_18 (by decide) ?_
    refine ok_goto 23 dX9_allowed_19 (by decide) ?_
    refine ok_wk [none] trivial ?_
    exact k6 (1) (by simp only [if_pos z1])
  · refine ok_iload_n 0 dX9_allowed_6 rfl rfl ?_
    refine ok_bipush 32 dX9_allowed_7 (by decide) ?_
    refine ok_ic_lt 22 dX9_allowed_9 (by decide) (fun z2 => ?_) (fun z2 => ?_)
    · refine ok_iconst 0 dX9_allowed_22 (by decide) ?_
      refine ok_wk [none] trivial ?_
      exact k6 (0) (by simp only [if_neg z1, if_pos z2])
    · refine ok_iload_n 0 dX9_allowed_12 rfl rfl ?_
      refine ok_bipush 126 dX9_allowed_13 (by decide) ?_
      refine ok_ic_gt 22 dX9_allowed_15 (by decide) (fun z3 => ?_) (fun z3 => ?_)
      · refine ok_iconst 0 dX9_allowed_22 (by decide) ?_
        refine ok_wk [none] trivial ?_
        exact k6 (0) (by simp only [if_neg z1, if_neg z2, if_pos z3])
      · refine ok_iconst 1 dX9_allowed_18 (by decide) ?_
        refine ok_goto 23 dX9_allowed_19 (by decide) ?_
        refine ok_wk [none] trivial ?_
        exact k6 (1) (by simp only [if_neg z1, if_neg z2, if_neg z3])

set_option maxRecDepth 100000 in
set_option maxHeartbeats 4000000 in
theorem sX9_append_0 {G : o_G} {d : Nat} {P : o_P} {i : o_I} {r : o_R} (v0 : Nat) (v1 : Int32) (v2 : Int32)
    (h : ((v2 < 1 → P (some (.int 0)) i r) ∧ (¬ v2 < 1 → ((4 < v2 → P (some (.int 0)) i r) ∧ (¬ 4 < v2 → o_O G v0 9 ∧ o_Y G (r v0 0) 2 ∧ ((((i v0 1) + v2) ≤ (nI (o_len G (r v0 0))) → Ok G (d + 1) mX9_append P 28 [some (.ref v0), some (.int v1), some (.int v2), some (.int 0)] [] i r) ∧ (¬ ((i v0 1) + v2) ≤ (nI (o_len G (r v0 0))) → P (some (.int 0)) i r))))))) :
    Ok G (d + 1) mX9_append P 0 [some (.ref v0), some (.int v1), some (.int v2), none] [] i r := by
  refine ok_iload_n 2 dX9_append_0 rfl rfl ?_
  refine ok_iconst 1 dX9_append_1 (by decide) ?_
  refine ok_ic_lt 24 dX9_append_2 (by decide) (fun z1 => ?_) (fun z1 => ?_)
  · replace h := h.1 z1
    refine ok_iconst 0 dX9_append_24 (by decide) ?_
    exact ok_iret .boolean dX9_append_25 rfl rfl h
  · replace h := h.2 z1
    refine ok_iload_n 2 dX9_append_5 rfl rfl ?_
    refine ok_iconst 4 dX9_append_6 (by decide) ?_
    refine ok_ic_gt 24 dX9_append_7 (by decide) (fun z2 => ?_) (fun z2 => ?_)
    · replace h := h.1 z2
      refine ok_iconst 0 dX9_append_24 (by decide) ?_
      exact ok_iret .boolean dX9_append_25 rfl rfl h
    · replace h := h.2 z2
      refine ok_aload_n 0 dX9_append_10 rfl rfl ?_
      obtain ⟨c3, h⟩ := h
      refine ok_geti 9 1 dX9_append_11 f9_7 rfl c3 ?_
      refine ok_iload_n 2 dX9_append_14 rfl rfl ?_
      refine ok_iadd dX9_append_15 ?_
      refine ok_aload_n 0 dX9_append_16 rfl rfl ?_
      refine ok_getr 9 0 dX9_append_17 f9_13 rfl c3 ?_
      obtain ⟨c4, h⟩ := h
      refine ok_alen2 dX9_append_20 c4 ?_
      refine ok_ic_le 26 dX9_append_21 (by decide) (fun z5 => ?_) (fun z5 => ?_)
      · replace h := h.1 z5
        refine ok_iconst 0 dX9_append_26 (by decide) ?_
        refine ok_istore_n 3 dX9_append_27 rfl (by decide) [some (.ref v0), some (.int v1), some (.int v2), some (.int 0)] rfl ?_
        exact h
      · replace h := h.2 z5
        refine ok_iconst 0 dX9_append_24 (by decide) ?_
        exact ok_iret .boolean dX9_append_25 rfl rfl h

set_option maxRecDepth 100000 in
set_option maxHeartbeats 4000000 in
theorem sX9_append_28 {G : o_G} {d : Nat} {P : o_P} {i : o_I} {r : o_R} (v0 : Nat) (v1 : Int32) (v2 : Int32) (v3 : Int32)
    (h : ((v2 ≤ v3 → ∀ x2 : Int32, x2 = (v2 - 1) → Ok G (d + 1) mX9_append P 56 [some (.ref v0), some (.int v1), none, some (.int x2)] [] i r) ∧ (¬ v2 ≤ v3 → SpI G d mX9_byteOf [.int v1, .int v3] (fun x3 i3 => SpI G d mX9_allowed [.int x3] (fun x4 i4 => ((¬ x4 = 0 → ∀ x6 : Int32, x6 = v3 + 1 → Ok G (d + 1) mX9_append P 28 [some (.ref v0), some (.int v1), some (.int v2), some (.int x6)] [] i4 r) ∧ (x4 = 0 → P (some (.int 0)) i4 r))) i3 r) i r))) :
    Ok G (d + 1) mX9_append P 28 [some (.ref v0), some (.int v1), some (.int v2), some (.int v3)] [] i r := by
  refine ok_iload_n 3 dX9_append_28 rfl rfl ?_
  refine ok_iload_n 2 dX9_append_29 rfl rfl ?_
  refine ok_ic_ge 52 dX9_append_30 (by decide) (fun z1 => ?_) (fun z1 => ?_)
  · replace h := h.1 z1
    refine ok_iload_n 2 dX9_append_52 rfl rfl ?_
    refine ok_iconst 1 dX9_append_53 (by decide) ?_
    refine ok_isub dX9_append_54 ?_
    refine ok_topi (fun x2 ex2 => ?_)
    replace h := h x2 ex2
    refine ok_istore_n 3 dX9_append_55 rfl (by decide) [some (.ref v0), some (.int v1), some (.int v2), some (.int x2)] rfl ?_
    refine ok_wk [some (.ref v0), some (.int v1), none, some (.int x2)] ⟨rfl, rfl, rfl, trivial⟩ ?_
    exact h
  · replace h := h.2 z1
    refine ok_iload_n 1 dX9_append_33 rfl rfl ?_
    refine ok_iload_n 3 dX9_append_34 rfl rfl ?_
    refine ok_cSi (rest := []) o_rc [.int v1, .int v3] dX9_append_35 k9_17 rfl rfl (Nat.le_of_ble_eq_true rfl) h (fun x3 i3 h => ?_)
    refine ok_cSi (rest := []) o_rc [.int x3] dX9_append_38 k9_21 rfl rfl (Nat.le_of_ble_eq_true rfl) h (fun x4 i4 h => ?_)
    refine ok_if_ne 46 dX9_append_41 (by decide) (fun z5 => ?_) (fun z5 => ?_)
    · replace h := h.1 z5
      refine ok_eqi (v3 + 1) (fun x6 ex6 => ?_)
      replace h := h x6 ex6
      refine ok_iinc 1 x6 dX9_append_46 rfl (by decide) ex6 (by decide) [some (.ref v0), some (.int v1), some (.int v2), some (.int x6)] rfl ?_
      refine ok_goto 28 dX9_append_49 (by decide) ?_
      exact h
    · replace h := h.2 z5
      refine ok_iconst 0 dX9_append_44 (by decide) ?_
      exact ok_iret .boolean dX9_append_45 rfl rfl h

set_option maxRecDepth 100000 in
set_option maxHeartbeats 4000000 in
theorem sX9_append_56 {G : o_G} {d : Nat} {P : o_P} {i : o_I} {r : o_R} (v0 : Nat) (v1 : Int32) (v3 : Int32)
    (h : ((v3 < 0 → P (some (.int 1)) i r) ∧ (¬ v3 < 0 → o_O G v0 9 ∧ SpI G d mX9_byteOf [.int v1, .int v3] (fun x3 i3 => o_Y G (r v0 0) 2 ∧ vp_in (i v0 1) (o_len G (r v0 0)) ∧ ∀ i6 : o_I, i6 = o_up i3 (r v0 0) (i v0 1).toNatClampNeg (vp_nar .char ((x3 : Int32).toUInt32 % 65536).toInt32) → ∀ i7 : o_I, i7 = o_up i6 v0 1 ((i6 v0 1) + 1) → ∀ x8 : Int32, x8 = v3 + (-1) → Ok G (d + 1) mX9_append P 56 [some (.ref v0), some (.int v1), none, some (.int x8)] [] i7 r) i r))) :
    Ok G (d + 1) mX9_append P 56 [some (.ref v0), some (.int v1), none, some (.int v3)] [] i r := by
  refine ok_iload_n 3 dX9_append_56 rfl rfl ?_
  refine ok_if_lt 91 dX9_append_57 (by decide) (fun z1 => ?_) (fun z1 => ?_)
  · replace h := h.1 z1
    refine ok_iconst 1 dX9_append_91 (by decide) ?_
    exact ok_iret .boolean dX9_append_92 rfl rfl h
  · replace h := h.2 z1
    refine ok_aload_n 0 dX9_append_60 rfl rfl ?_
    obtain ⟨c2, h⟩ := h
    refine ok_getr 9 0 dX9_append_61 f9_13 rfl c2 ?_
    refine ok_aload_n 0 dX9_append_64 rfl rfl ?_
    refine ok_geti 9 1 dX9_append_65 f9_7 rfl c2 ?_
    refine ok_iload_n 1 dX9_append_68 rfl rfl ?_
    refine ok_iload_n 3 dX9_append_69 rfl rfl ?_
    refine ok_cSi (rest := [.int (i v0 1), .ref (r v0 0)]) o_rc [.int v1, .int v3] dX9_append_70 k9_17 rfl rfl (Nat.le_of_ble_eq_true rfl) h (fun x3 i3 h => ?_)
    refine ok_i2c dX9_append_73 ?_
    obtain ⟨c4, h⟩ := h
    obtain ⟨c5, h⟩ := h
    refine ok_cast dX9_append_74 c4 c5 ?_
    refine ok_nmi (fun i6 ei6 => ?_)
    replace h := h i6 ei6
    refine ok_aload_n 0 dX9_append_75 rfl rfl ?_
    refine ok_dup dX9_append_76 rfl ?_
    refine ok_geti 9 1 dX9_append_77 f9_7 rfl c2 ?_
    refine ok_iconst 1 dX9_append_80 (by decide) ?_
    refine ok_iadd dX9_append_81 ?_
    refine ok_puti 9 1 .int dX9_append_82 f9_7 rfl rfl (by decide +kernel) rfl rfl c2 ?_
    refine ok_nmi (fun i7 ei7 => ?_)
    replace h := h i7 ei7
    refine ok_eqi (v3 + (-1)) (fun x8 ex8 => ?_)
    replace h := h x8 ex8
    refine ok_iinc (-1) x8 dX9_append_85 rfl (by decide) ex8 (by decide) [some (.ref v0), some (.int v1), none, some (.int x8)] rfl ?_
    refine ok_goto 56 dX9_append_88 (by decide) ?_
    exact h

set_option maxRecDepth 100000 in
set_option maxHeartbeats 4000000 in
theorem sX9_byteOf_0 {G : o_G} {d : Nat} {P : o_P} {i : o_I} {r : o_R} (v0 : Int32) (v1 : Int32)
    (h : P (some (.int (((v0).toUInt32 >>> (((8 * v1) : Int32).toUInt32 &&& Int32.toUInt32 31)).toInt32 &&& 255))) i r) :
    Ok G (d + 1) mX9_byteOf P 0 [some (.int v0), some (.int v1)] [] i r := by
  refine ok_iload_n 0 dX9_byteOf_0 rfl rfl ?_
  refine ok_bipush 8 dX9_byteOf_1 (by decide) ?_
  refine ok_iload_n 1 dX9_byteOf_3 rfl rfl ?_
  refine ok_imul dX9_byteOf_4 ?_
  refine ok_iushr dX9_byteOf_5 ?_
  refine ok_sipush 255 dX9_byteOf_6 (by decide) ?_
  refine ok_iand dX9_byteOf_9 ?_
  exact ok_iret .int dX9_byteOf_10 rfl rfl h

set_option maxRecDepth 100000 in
set_option maxHeartbeats 4000000 in
theorem sX10_addAllele_0 {G : o_G} {d : Nat} {P : o_P} {i : o_I} {r : o_R} (v0 : Nat)
    (h : Ok G (d + 1) mX10_addAllele P 4 [some (.ref v0), some (.int (-1)), some (.int 0), none, none] [] i r) :
    Ok G (d + 1) mX10_addAllele P 0 [some (.ref v0), none, none, none, none] [] i r := by
  refine ok_iconst (-1) dX10_addAllele_0 (by decide) ?_
  refine ok_istore_n 1 dX10_addAllele_1 rfl (by decide) [some (.ref v0), some (.int (-1)), none, none, none] rfl ?_
  refine ok_iconst 0 dX10_addAllele_2 (by decide) ?_
  refine ok_istore_n 2 dX10_addAllele_3 rfl (by decide) [some (.ref v0), some (.int (-1)), some (.int 0), none, none] rfl ?_
  exact h

set_option maxRecDepth 100000 in
set_option maxHeartbeats 4000000 in
theorem sX10_addAllele_4 {G : o_G} {d : Nat} {P : o_P} {i : o_I} {r : o_R} (v0 : Nat) (v1 : Int32) (v2 : Int32)
    (h : ((104 ≤ v2 → ((v1 < 0 → P none i r) ∧ (¬ v1 < 0 → o_O G v0 10 ∧ o_Y G (r v0 32) 1 ∧ vp_in (i v0 31) (o_len G (r v0 32)) ∧ ∀ i6 : o_I, i6 = o_up i (r v0 32) (i v0 31).toNatClampNeg v1 → ∀ i7 : o_I, i7 = o_up i6 v0 31 ((i6 v0 31) + 1) → P none i7 r))) ∧ (¬ 104 ≤ v2 → Ok G (d + 1) mX10_addAllele P 15 [some (.ref v0), some (.int v1), some (.int v2), some (.int 0), some (.int 0)] [] i r))) :
    Ok G (d + 1) mX10_addAllele P 4 [some (.ref v0), some (.int v1), some (.int v2), none, none] [] i r := by
  refine ok_iload_n 2 dX10_addAllele_4 rfl rfl ?_
  refine ok_bipush 104 dX10_addAllele_5 (by decide) ?_
  refine ok_ic_ge 95 dX10_addAllele_7 (by decide) (fun z1 => ?_) (fun z1 => ?_)
  · replace h := h.1 z1
    refine ok_iload_n 1 dX10_addAllele_95 rfl rfl ?_
    refine ok_if_lt 119 dX10_addAllele_96 (by decide) (fun z2 => ?_) (fun z2 => ?_)
    · replace h := h.1 z2
      exact ok_vret dX10_addAllele_119 rfl h
    · replace h := h.2 z2
      refine ok_aload_n 0 dX10_addAllele_99 rfl rfl ?_
      obtain ⟨c3, h⟩ := h
      refine ok_getr 10 32 dX10_addAllele_100 f10_80 rfl c3 ?_
      refine ok_aload_n 0 dX10_addAllele_103 rfl rfl ?_
      refine ok_geti 10 31 dX10_addAllele_104 f10_153 rfl c3 ?_
      refine ok_iload_n 1 dX10_addAllele_107 rfl rfl ?_
      obtain ⟨c4, h⟩ := h
      obtain ⟨c5, h⟩ := h
      refine ok_iast dX10_addAllele_108 c4 c5 ?_
      refine ok_nmi (fun i6 ei6 => ?_)
      replace h := h i6 ei6
      refine ok_aload_n 0 dX10_addAllele_109 rfl rfl ?_
      refine ok_dup dX10_addAllele_110 rfl ?_
      refine ok_geti 10 31 dX10_addAllele_111 f10_153 rfl c3 ?_
      refine ok_iconst 1 dX10_addAllele_114 (by decide) ?_
      refine ok_iadd dX10_addAllele_115 ?_
      refine ok_puti 10 31 .int dX10_addAllele_116 f10_153 rfl rfl (by decide +kernel) rfl rfl c3 ?_
      refine ok_nmi (fun i7 ei7 => ?_)
      replace h := h i7 ei7
      exact ok_vret dX10_addAllele_119 rfl h
  · replace h := h.2 z1
    refine ok_iconst 0 dX10_addAllele_10 (by decide) ?_
    refine ok_istore_n 3 dX10_addAllele_11 rfl (by decide) [some (.ref v0), some (.int v1), some (.int v2), some (.int 0), none] rfl ?_
    refine ok_iconst 0 dX10_addAllele_12 (by decide) ?_
    refine ok_istore dX10_addAllele_13 (by decide) [some (.ref v0), some (.int v1), some (.int v2), some (.int 0), some (.int 0)] rfl ?_
    exact h

set_option maxRecDepth 100000 in
set_option maxHeartbeats 4000000 in
theorem sX10_addAllele_15 {G : o_G} {d : Nat} {P : o_P} {i : o_I} {r : o_R} (v0 : Nat) (v1 : Int32) (v2 : Int32) (v3 : Int32) (v4 : Int32)
    (h : o_O G v0 10 ∧ (((i v0 31) ≤ v4 → ((¬ v3 = 0 → True) ∧ (v3 = 0 → o_Y G (r v0 33) 1 ∧ vp_in v2 (o_len G (r v0 33)) ∧ (((i (r v0 33) v2.toNatClampNeg) ≤ 0 → True) ∧ (¬ (i (r v0 33) v2.toNatClampNeg) ≤ 0 → ((v1 < 0 → True) ∧ (¬ v1 < 0 → vp_in v1 (o_len G (r v0 33)) ∧ True)))))) ∧ (∀ x10 : Int32, x10 = (if v3 = 0 then (if (i (r v0 33) v2.toNatClampNeg) ≤ 0 then v1 else (if v1 < 0 then v2 else (if (i (r v0 33) v2.toNatClampNeg) ≤ (i (r v0 33) v1.toNatClampNeg) then v1 else v2))) else v1) → ∀ x11 : Int32, x11 = v2 + 1 → Ok G (d + 1) mX10_addAllele P 4 [some (.ref v0), some (.int x10), some (.int x11), none, none] [] i r)) ∧ (¬ (i v0 31) ≤ v4 → ((¬ v3 = 0 → True) ∧ (v3 = 0 → o_Y G (r v0 32) 1 ∧ vp_in v4 (o_len G (r v0 32)) ∧ True)) ∧ (∀ x17 : Int32, x17 = (if v3 = 0 then (if (i (r v0 32) v4.toNatClampNeg) = v2 then 1 else 0) else 1) → ∀ x18 : Int32, x18 = v4 + 1 → Ok G (d + 1) mX10_addAllele P 15 [some (.ref v0), some (.int v1), some (.int v2), some (.int x17), some (.int x18)] [] i r)))) :
    Ok G (d + 1) mX10_addAllele P 15 [some (.ref v0), some (.int v1), some (.int v2), some (.int v3), some (.int v4)] [] i r := by
  refine ok_iload dX10_addAllele_15 rfl ?_
  refine ok_aload_n 0 dX10_addAllele_17 rfl rfl ?_
  obtain ⟨c1, h⟩ := h
  refine ok_geti 10 31 dX10_addAllele_18 f10_153 rfl c1 ?_
  refine ok_ic_ge 51 dX10_addAllele_21 (by decide) (fun z2 => ?_) (fun z2 => ?_)
  · replace h := h.1 z2
    refine ok_iload_n 3 dX10_addAllele_51 rfl rfl ?_
    obtain ⟨hs, h⟩ := h
    have k12 : ∀ x10 : Int32, x10 = (if v3 = 0 then (if (i (r v0 33) v2.toNatClampNeg) ≤ 0 then v1 else (if v1 < 0 then v2 else (if (i (r v0 33) v2.toNatClampNeg) ≤ (i (r v0 33) v1.toNatClampNeg) then v1 else v2))) else v1) → Ok G (d + 1) mX10_addAllele P 88 [some (.ref v0), none, some (.int v2), none, none] [.int x10] i r := by
      intro x10 ex10
      replace h := h x10 ex10
      refine ok_istore_n 1 dX10_addAllele_88 rfl (by decide) [some (.ref v0), some (.int x10), some (.int v2), none, none] rfl ?_
      refine ok_eqi (v2 + 1) (fun x11 ex11 => ?_)
      replace h := h x11 ex11
      refine ok_iinc 1 x11 dX10_addAllele_89 rfl (by decide) ex11 (by decide) [some (.ref v0), some (.int x10), some (.int x11), none, none] rfl ?_
      refine ok_goto 4 dX10_addAllele_92 (by decide) ?_
      exact h
    clear h
    refine ok_if_ne 87 dX10_addAllele_52 (by decide) (fun z3 => ?_) (fun z3 => ?_)
    · replace hs := hs.1 z3
      refine ok_iload_n 1 dX10_addAllele_87 rfl rfl ?_
      refine ok_wk [some (.ref v0), none, some (.int v2), none, none] ⟨rfl, rfl, trivial⟩ ?_
      exact k12 (v1) (by simp only [if_neg z3])
    · replace hs := hs.2 z3
      refine ok_aload_n 0 dX10_addAllele_55 rfl rfl ?_
      refine ok_getr 10 33 dX10_addAllele_56 f10_83 rfl c1 ?_
      refine ok_iload_n 2 dX10_addAllele_59 rfl rfl ?_
      obtain ⟨c4, hs⟩  := hs
      obtain ⟨c5, hs⟩  := hs
      refine ok_iald dX10_addAllele_60 c4 c5 ?_
      refine ok_if_le 87 dX10_addAllele_61 (by decide) (fun z6 => ?_) (fun z6 => ?_)
      · replace hs := hs.1 z6
        refine ok_iload_n 1 dX10_addAllele_87 rfl rfl ?_
        refine ok_wk [some (.ref v0), none, some (.int v2), none, none] ⟨rfl, rfl, trivial⟩ ?_
        exact k12 (v1) (by simp only [if_pos z3, if_pos z6])
      · replace hs := hs.2 z6
        refine ok_iload_n 1 dX10_addAllele_64 rfl rfl ?_
        refine ok_if_lt 83 dX10_addAllele_65 (by decide) (fun z7 => ?_) (fun z7 => ?_)
        · replace hs := hs.1 z7
          refine ok_iload_n 2 dX10_addAllele_83 rfl rfl ?_
          refine ok_goto 88 dX10_addAllele_84 (by decide) ?_
          refine ok_wk [some (.ref v0), none, some (.int v2), none, none] ⟨rfl, rfl, trivial⟩ ?_
          exact k12 (v2) (by simp only [if_pos z3, if_neg z6, if_pos z7])
        · replace hs := hs.2 z7
          refine ok_aload_n 0 dX10_addAllele_68 rfl rfl ?_
          refine ok_getr 10 33 dX10_addAllele_69 f10_83 rfl c1 ?_
          refine ok_iload_n 2 dX10_addAllele_72 rfl rfl ?_
          refine ok_iald dX10_addAllele_73 c4 c5 ?_
          refine ok_aload_n 0 dX10_addAllele_74 rfl rfl ?_
          refine ok_getr 10 33 dX10_addAllele_75 f10_83 rfl c1 ?_
          refine ok_iload_n 1 dX10_addAllele_78 rfl rfl ?_
          obtain ⟨c8, hs⟩  := hs
          refine ok_iald dX10_addAllele_79 c4 c8 ?_
          refine ok_ic_le 87 dX10_addAllele_80 (by decide) (fun z9 => ?_) (fun z9 => ?_)
          · refine ok_iload_n 1 dX10_addAllele_87 rfl rfl ?_
            refine ok_wk [some (.ref v0), none, some (.int v2), none, none] ⟨rfl, rfl, trivial⟩ ?_
            exact k12 (v1) (by simp only [if_pos z3, if_neg z6, if_neg z7, if_pos z9])
          · refine ok_iload_n 2 dX10_addAllele_83 rfl rfl ?_
            refine ok_goto 88 dX10_addAllele_84 (by decide) ?_
            refine ok_wk [some (.ref v0), none, some (.int v2), none, none] ⟨rfl, rfl, trivial⟩ ?_
            exact k12 (v2) (by simp only [if_pos z3, if_neg z6, if_neg z7, if_neg z9])
  · replace h := h.2 z2
    refine ok_iload_n 3 dX10_addAllele_24 rfl rfl ?_
    obtain ⟨hs, h⟩ := h
    have k19 : ∀ x17 : Int32, x17 = (if v3 = 0 then (if (i (r v0 32) v4.toNatClampNeg) = v2 then 1 else 0) else 1) → Ok G (d + 1) mX10_addAllele P 44 [some (.ref v0), some (.int v1), some (.int v2), none, some (.int v4)] [.int x17] i r := by
      intro x17 ex17
      replace h := h x17 ex17
      refine ok_istore_n 3 dX10_addAllele_44 rfl (by decide) [some (.ref v0), some (.int v1), some (.int v2), some (.int x17), some (.int v4)] rfl ?_
      refine ok_eqi (v4 + 1) (fun x18 ex18 => ?_)
      replace h := h x18 ex18
      refine ok_iinc 1 x18 dX10_addAllele_45 rfl (by decide) ex18 (by decide) [some (.ref v0), some (.int v1), some (.int v2), some (.int x17), some (.int x18)] rfl ?_
      refine ok_goto 15 dX10_addAllele_48 (by decide) ?_
      exact h
    clear h
    refine ok_if_ne 39 dX10_addAllele_25 (by decide) (fun z13 => ?_) (fun z13 => ?_)
    · replace hs := hs.1 z13
      refine ok_iconst 1 dX10_addAllele_39 (by decide) ?_
      refine ok_goto 44 dX10_addAllele_40 (by decide) ?_
      refine ok_wk [some (.ref v0), some (.int v1), some (.int v2), none, some (.int v4)] ⟨rfl, rfl, rfl, rfl, trivial⟩ ?_
      exact k19 (1) (by simp only [if_neg z13])
    · replace hs := hs.2 z13
      refine ok_aload_n 0 dX10_addAllele_28 rfl rfl ?_
      refine ok_getr 10 32 dX10_addAllele_29 f10_80 rfl c1 ?_
      refine ok_iload dX10_addAllele_32 rfl ?_
      obtain ⟨c14, hs⟩  := hs
      obtain ⟨c15, hs⟩  := hs
      refine ok_iald dX10_addAllele_34 c14 c15 ?_
      refine ok_iload_n 2 dX10_addAllele_35 rfl rfl ?_
      refine ok_ic_ne 43 dX10_addAllele_36 (by decide) (fun z16 => ?_) (fun z16 => ?_)
      · refine ok_iconst 0 dX10_addAllele_43 (by decide) ?_
        refine ok_wk [some (.ref v0), some (.int v1), some (.int v2), none, some (.int v4)] ⟨rfl, rfl, rfl, rfl, trivial⟩ ?_
        exact k19 (0) (by simp only [if_pos z13, if_neg z16])
      · refine ok_iconst 1 dX10_addAllele_39 (by decide) ?_
        refine ok_goto 44 dX10_addAllele_40 (by decide) ?_
        refine ok_wk [some (.ref v0), some (.int v1), some (.int v2), none, some (.int v4)] ⟨rfl, rfl, rfl, rfl, trivial⟩ ?_
        exact k19 (1) (by simp only [if_pos z13, if_pos z16])

set_option maxRecDepth 100000 in
set_option maxHeartbeats 4000000 in
theorem sX10_behindName_0 {G : o_G} {d : Nat} {P : o_P} {i : o_I} {r : o_R} (v0 : Nat) (v1 : Int32) (v2 : Int32)
    (h : Ok G (d + 1) mX10_behindName P 2 [some (.ref v0), some (.int v1), some (.int v2), some (.int 0)] [] i r) :
    Ok G (d + 1) mX10_behindName P 0 [some (.ref v0), some (.int v1), some (.int v2), none] [] i r := by
  refine ok_iconst 0 dX10_behindName_0 (by decide) ?_
  refine ok_istore_n 3 dX10_behindName_1 rfl (by decide) [some (.ref v0), some (.int v1), some (.int v2), some (.int 0)] rfl ?_
  exact h

set_option maxRecDepth 100000 in
set_option maxHeartbeats 4000000 in
theorem sX10_behindName_2 {G : o_G} {d : Nat} {P : o_P} {i : o_I} {r : o_R} (v0 : Nat) (v1 : Int32) (v2 : Int32) (v3 : Int32)
    (h : ((8 ≤ v3 → Ok G (d + 1) mX10_behindName P 28 [some (.ref v0), some (.int v1), some (.int v2), some (.int v3)] [] i r) ∧ (¬ 8 ≤ v3 → o_O G v0 10 ∧ SpI G d mX10_look [.ref v0, .int v1, .int (v2 + v3)] (fun x3 i3 => SpI G d mX10_visible [.int x3] (fun x4 i4 => ((x4 = 0 → Ok G (d + 1) mX10_behindName P 28 [some (.ref v0), some (.int v1), some (.int v2), some (.int v3)] [] i4 r) ∧ (¬ x4 = 0 → ∀ x6 : Int32, x6 = v3 + 1 → Ok G (d + 1) mX10_behindName P 2 [some (.ref v0), some (.int v1), some (.int v2), some (.int x6)] [] i4 r))) i3 r) i r))) :
    Ok G (d + 1) mX10_behindName P 2 [some (.ref v0), some (.int v1), some (.int v2), some (.int v3)] [] i r := by
  refine ok_iload_n 3 dX10_behindName_2 rfl rfl ?_
  refine ok_bipush 8 dX10_behindName_3 (by decide) ?_
  refine ok_ic_ge 28 dX10_behindName_5 (by decide) (fun z1 => ?_) (fun z1 => ?_)
  · replace h := h.1 z1
    exact h
  · replace h := h.2 z1
    refine ok_aload_n 0 dX10_behindName_8 rfl rfl ?_
    refine ok_iload_n 1 dX10_behindName_9 rfl rfl ?_
    refine ok_iload_n 2 dX10_behindName_10 rfl rfl ?_
    refine ok_iload_n 3 dX10_behindName_11 rfl rfl ?_
    refine ok_iadd dX10_behindName_12 ?_
    obtain ⟨c2, h⟩ := h
    refine ok_cVi (rest := []) o_rc 10 [.int v1, .int (v2 + v3)] dX10_behindName_13 k10_93 c2 rfl rfl (Nat.le_of_ble_eq_true rfl) h (fun x3 i3 h => ?_)
    refine ok_cSi (rest := []) o_rc [.int x3] dX10_behindName_16 k10_97 rfl rfl (Nat.le_of_ble_eq_true rfl) h (fun x4 i4 h => ?_)
    refine ok_if_eq 28 dX10_behindName_19 (by decide) (fun z5 => ?_) (fun z5 => ?_)
    · replace h := h.1 z5
      exact h
    · replace h := h.2 z5
      refine ok_eqi (v3 + 1) (fun x6 ex6 => ?_)
      replace h := h x6 ex6
      refine ok_iinc 1 x6 dX10_behindName_22 rfl (by decide) ex6 (by decide) [some (.ref v0), some (.int v1), some (.int v2), some (.int x6)] rfl ?_
      refine ok_goto 2 dX10_behindName_25 (by decide) ?_
      exact h

set_option maxRecDepth 100000 in
set_option maxHeartbeats 4000000 in
theorem sX10_behindName_28 {G : o_G} {d : Nat} {P : o_P} {i : o_I} {r : o_R} (v0 : Nat) (v1 : Int32) (v2 : Int32) (v3 : Int32)
    (h : ((v3 = 0 → P (some (.int ((v2 + v3) - 1000))) i r) ∧ (¬ v3 = 0 → o_O G v0 10 ∧ SpI G d mX10_look [.ref v0, .int v1, .int (v2 + v3)] (fun x3 i3 => (∀ x5 : Int32, x5 = (if x3 = 10 then ((v2 + v3) + 1) else ((v2 + v3) - 1000)) → P (some (.int x5)) i3 r)) i r))) :
    Ok G (d + 1) mX10_behindName P 28 [some (.ref v0), some (.int v1), some (.int v2), some (.int v3)] [] i r := by
  refine ok_iload_n 3 dX10_behindName_28 rfl rfl ?_
  refine ok_if_eq 45 dX10_behindName_29 (by decide) (fun z1 => ?_) (fun z1 => ?_)
  · replace h := h.1 z1
    refine ok_iload_n 2 dX10_behindName_45 rfl rfl ?_
    refine ok_iload_n 3 dX10_behindName_46 rfl rfl ?_
    refine ok_iadd dX10_behindName_47 ?_
    refine ok_sipush 1000 dX10_behindName_48 (by decide) ?_
    refine ok_isub dX10_behindName_51 ?_
    refine ok_goto 60 dX10_behindName_52 (by decide) ?_
    exact ok_iret .int dX10_behindName_60 rfl rfl h
  · replace h := h.2 z1
    refine ok_aload_n 0 dX10_behindName_32 rfl rfl ?_
    refine ok_iload_n 1 dX10_behindName_33 rfl rfl ?_
    refine ok_iload_n 2 dX10_behindName_34 rfl rfl ?_
    refine ok_iload_n 3 dX10_behindName_35 rfl rfl ?_
    refine ok_iadd dX10_behindName_36 ?_
    obtain ⟨c2, h⟩ := h
    refine ok_cVi (rest := []) o_rc 10 [.int v1, .int (v2 + v3)] dX10_behindName_37 k10_93 c2 rfl rfl (Nat.le_of_ble_eq_true rfl) h (fun x3 i3 h => ?_)
    refine ok_bipush 10 dX10_behindName_40 (by decide) ?_
    have k6 : ∀ x5 : Int32, x5 = (if x3 = 10 then ((v2 + v3) + 1) else ((v2 + v3) - 1000)) → Ok G (d + 1) mX10_behindName P 60 [none, none, none, none] [.int x5] i3 r := by
      intro x5 ex5
      replace h := h x5 ex5
      exact ok_iret .int dX10_behindName_60 rfl rfl h
    clear h
    refine ok_ic_eq 55 dX10_behindName_42 (by decide) (fun z4 => ?_) (fun z4 => ?_)
    · refine ok_iload_n 2 dX10_behindName_55 rfl rfl ?_
      refine ok_iload_n 3 dX10_behindName_56 rfl rfl ?_
      refine ok_iadd dX10_behindName_57 ?_
      refine ok_iconst 1 dX10_behindName_58 (by decide) ?_
      refine ok_iadd dX10_behindName_59 ?_
      refine ok_wk [none, none, none, none] trivial ?_
      exact k6 (((v2 + v3) + 1)) (by simp only [if_pos z4])
    · refine ok_iload_n 2 dX10_behindName_45 rfl rfl ?_
      refine ok_iload_n 3 dX10_behindName_46 rfl rfl ?_
      refine ok_iadd dX10_behindName_47 ?_
      refine ok_sipush 1000 dX10_behindName_48 (by decide) ?_
      refine ok_isub dX10_behindName_51 ?_
      refine ok_goto 60 dX10_behindName_52 (by decide) ?_
      refine ok_wk [none, none, none, none] trivial ?_
      exact k6 (((v2 + v3) - 1000)) (by simp only [if_neg z4])

set_option maxRecDepth 100000 in
set_option maxHeartbeats 4000000 in
theorem sX10_call_0 {G : o_G} {d : Nat} {P : o_P} {i : o_I} {r : o_R} (v0 : Nat) (v1 : Int32)
    (h : SpI G d mX10_outside [.int v1, .int 0, .int 3] (fun x1 i1 => ((x1 = 0 → o_O G v0 10 ∧ SpI G d mX10_errorOfReference [.ref v0] (fun x4 i4 => ((x4 < 0 → SpI G d mX10_errorOfReads [.ref v0] (fun x6 i6 => ((x6 < 0 → SpV G d mX10_take [.ref v0] (fun i8 => ∀ i9 : o_I, i9 = o_up i8 v0 37 1 → ∀ i10 : o_I, i10 = o_up i9 v0 20 0 → ∀ i11 : o_I, i11 = o_up i10 v0 24 0 → Ok G (d + 1) mX10_call P 62 [some (.ref v0), some (.int v1), none, some (.int 0), none] [] i11 r) i6 r) ∧ (¬ x6 < 0 → P (some (.int ((-2000) - x6))) i6 r))) i4 r) ∧ (¬ x4 < 0 → P (some (.int ((-1000) - x4))) i4 r))) i1 r) ∧ (¬ x1 = 0 → P (some (.int (-1))) i1 r))) i r) :
    Ok G (d + 1) mX10_call P 0 [some (.ref v0), some (.int v1), none, none, none] [] i r := by
  refine ok_iload_n 1 dX10_call_0 rfl rfl ?_
  refine ok_iconst 0 dX10_call_1 (by decide) ?_
  refine ok_iconst 3 dX10_call_2 (by decide) ?_
  refine ok_cSi (rest := []) o_rc [.int v1, .int 0, .int 3] dX10_call_3 k10_89 rfl rfl (Nat.le_of_ble_eq_true rfl) h (fun x1 i1 h => ?_)
  refine ok_if_eq 11 dX10_call_6 (by decide) (fun z2 => ?_) (fun z2 => ?_)
  · replace h := h.1 z2
    refine ok_aload_n 0 dX10_call_11 rfl rfl ?_
    obtain ⟨c3, h⟩ := h
    refine ok_cVi (rest := []) o_rc 10 [] dX10_call_12 k10_194 c3 rfl rfl (Nat.le_of_ble_eq_true rfl) h (fun x4 i4 h => ?_)
    refine ok_istore_n 2 dX10_call_15 rfl (by decide) [some (.ref v0), some (.int v1), some (.int x4), none, none] rfl ?_
    refine ok_iload_n 2 dX10_call_16 rfl rfl ?_
    refine ok_if_lt 26 dX10_call_17 (by decide) (fun z5 => ?_) (fun z5 => ?_)
    · replace h := h.1 z5
      refine ok_aload_n 0 dX10_call_26 rfl rfl ?_
      refine ok_cVi (rest := []) o_rc 10 [] dX10_call_27 k10_197 c3 rfl rfl (Nat.le_of_ble_eq_true rfl) h (fun x6 i6 h => ?_)
      refine ok_istore_n 2 dX10_call_30 rfl (by decide) [some (.ref v0), some (.int v1), some (.int x6), none, none] rfl ?_
      refine ok_iload_n 2 dX10_call_31 rfl rfl ?_
      refine ok_if_lt 41 dX10_call_32 (by decide) (fun z7 => ?_) (fun z7 => ?_)
      · replace h := h.1 z7
        refine ok_aload_n 0 dX10_call_41 rfl rfl ?_
        refine ok_cVv (rest := []) o_rc 10 [] dX10_call_42 k10_200 c3 rfl rfl (Nat.le_of_ble_eq_true rfl) h (fun i8 h => ?_)
        refine ok_aload_n 0 dX10_call_45 rfl rfl ?_
        refine ok_iconst 1 dX10_call_46 (by decide) ?_
        refine ok_puti 10 37 .boolean dX10_call_47 f10_203 rfl rfl (by decide +kernel) rfl rfl c3 ?_
        refine ok_nmi (fun i9 ei9 => ?_)
        replace h := h i9 ei9
        refine ok_aload_n 0 dX10_call_50 rfl rfl ?_
        refine ok_iconst 0 dX10_call_51 (by decide) ?_
        refine ok_puti 10 20 .int dX10_call_52 f10_146 rfl rfl (by decide +kernel) rfl rfl c3 ?_
        refine ok_nmi (fun i10 ei10 => ?_)
        replace h := h i10 ei10
        refine ok_aload_n 0 dX10_call_55 rfl rfl ?_
        refine ok_iconst 0 dX10_call_56 (by decide) ?_
        refine ok_puti 10 24 .int dX10_call_57 f10_133 rfl rfl (by decide +kernel) rfl rfl c3 ?_
        refine ok_nmi (fun i11 ei11 => ?_)
        replace h := h i11 ei11
        refine ok_iconst 0 dX10_call_60 (by decide) ?_
        refine ok_istore_n 3 dX10_call_61 rfl (by decide) [some (.ref v0), some (.int v1), some (.int x6), some (.int 0), none] rfl ?_
        refine ok_wk [some (.ref v0), some (.int v1), none, some (.int 0), none] ⟨rfl, rfl, rfl, trivial⟩ ?_
        exact h
      · replace h := h.2 z7
        refine ok_sipush (-2000) dX10_call_35 (by decide) ?_
        refine ok_iload_n 2 dX10_call_38 rfl rfl ?_
        refine ok_isub dX10_call_39 ?_
        exact ok_iret .int dX10_call_40 rfl rfl h
    · replace h := h.2 z5
      refine ok_sipush (-1000) dX10_call_20 (by decide) ?_
      refine ok_iload_n 2 dX10_call_23 rfl rfl ?_
      refine ok_isub dX10_call_24 ?_
      exact ok_iret .int dX10_call_25 rfl rfl h
  · replace h := h.2 z2
    refine ok_iconst (-1) dX10_call_9 (by decide) ?_
    exact ok_iret .int dX10_call_10 rfl rfl h

set_option maxRecDepth 100000 in
set_option maxHeartbeats 4000000 in
theorem sX10_call_62 {G : o_G} {d : Nat} {P : o_P} {i : o_I} {r : o_R} (v0 : Nat) (v1 : Int32) (v3 : Int32)
    (h : o_O G v0 10 ∧ (((i v0 6) ≤ v3 → Ok G (d + 1) mX10_call P 106 [some (.ref v0), none, none, some (.int 0), some (.int 0)] [] i r) ∧ (¬ (i v0 6) ≤ v3 → SpV G d mX10_settle [.ref v0, .int v3, .int v1] (fun i3 => o_Y G (r v0 10) 1 ∧ vp_in v3 (o_len G (r v0 10)) ∧ ((¬ (i3 (r v0 10) v3.toNatClampNeg) = 0 → ∀ x7 : Int32, x7 = v3 + 1 → Ok G (d + 1) mX10_call P 62 [some (.ref v0), some (.int v1), none, some (.int x7), none] [] i3 r) ∧ ((i3 (r v0 10) v3.toNatClampNeg) = 0 → SpV G d mX10_script [.ref v0, .int v3] (fun i8 => SpV G d mX10_watch [.ref v0, .int v3] (fun i9 => ∀ x10 : Int32, x10 = v3 + 1 → Ok G (d + 1) mX10_call P 62 [some (.ref v0), some (.int v1), none, some (.int x10), none] [] i9 r) i8 r) i3 r))) i r))) :
    Ok G (d + 1) mX10_call P 62 [some (.ref v0), some (.int v1), none, some (.int v3), none] [] i r := by
  refine ok_iload_n 3 dX10_call_62 rfl rfl ?_
  refine ok_aload_n 0 dX10_call_63 rfl rfl ?_
  obtain ⟨c1, h⟩ := h
  refine ok_geti 10 6 dX10_call_64 f10_123 rfl c1 ?_
  refine ok_ic_ge 101 dX10_call_67 (by decide) (fun z2 => ?_) (fun z2 => ?_)
  · replace h := h.1 z2
    refine ok_iconst 0 dX10_call_101 (by decide) ?_
    refine ok_istore_n 3 dX10_call_102 rfl (by decide) [some (.ref v0), some (.int v1), none, some (.int 0), none] rfl ?_
    refine ok_iconst 0 dX10_call_103 (by decide) ?_
    refine ok_istore dX10_call_104 (by decide) [some (.ref v0), some (.int v1), none, some (.int 0), some (.int 0)] rfl ?_
    refine ok_wk [some (.ref v0), none, none, some (.int 0), some (.int 0)] ⟨rfl, rfl, rfl, trivial⟩ ?_
    exact h
  · replace h := h.2 z2
    refine ok_aload_n 0 dX10_call_70 rfl rfl ?_
    refine ok_iload_n 3 dX10_call_71 rfl rfl ?_
    refine ok_iload_n 1 dX10_call_72 rfl rfl ?_
    refine ok_cVv (rest := []) o_rc 10 [.int v3, .int v1] dX10_call_73 k10_206 c1 rfl rfl (Nat.le_of_ble_eq_true rfl) h (fun i3 h => ?_)
    refine ok_aload_n 0 dX10_call_76 rfl rfl ?_
    refine ok_getr 10 10 dX10_call_77 f10_32 rfl c1 ?_
    refine ok_iload_n 3 dX10_call_80 rfl rfl ?_
    obtain ⟨c4, h⟩ := h
    obtain ⟨c5, h⟩ := h
    refine ok_iald dX10_call_81 c4 c5 ?_
    refine ok_if_ne 95 dX10_call_82 (by decide) (fun z6 => ?_) (fun z6 => ?_)
    · replace h := h.1 z6
      refine ok_eqi (v3 + 1) (fun x7 ex7 => ?_)
      replace h := h x7 ex7
      refine ok_iinc 1 x7 dX10_call_95 rfl (by decide) ex7 (by decide) [some (.ref v0), some (.int v1), none, some (.int x7), none] rfl ?_
      refine ok_goto 62 dX10_call_98 (by decide) ?_
      exact h
    · replace h := h.2 z6
      refine ok_aload_n 0 dX10_call_85 rfl rfl ?_
      refine ok_iload_n 3 dX10_call_86 rfl rfl ?_
      refine ok_cVv (rest := []) o_rc 10 [.int v3] dX10_call_87 k10_209 c1 rfl rfl (Nat.le_of_ble_eq_true rfl) h (fun i8 h => ?_)
      refine ok_aload_n 0 dX10_call_90 rfl rfl ?_
      refine ok_iload_n 3 dX10_call_91 rfl rfl ?_
      refine ok_cVv (rest := []) o_rc 10 [.int v3] dX10_call_92 k10_213 c1 rfl rfl (Nat.le_of_ble_eq_true rfl) h (fun i9 h => ?_)
      refine ok_eqi (v3 + 1) (fun x10 ex10 => ?_)
      replace h := h x10 ex10
      refine ok_iinc 1 x10 dX10_call_95 rfl (by decide) ex10 (by decide) [some (.ref v0), some (.int v1), none, some (.int x10), none] rfl ?_
      refine ok_goto 62 dX10_call_98 (by decide) ?_
      exact h

set_option maxRecDepth 100000 in
set_option maxHeartbeats 4000000 in
theorem sX10_call_106 {G : o_G} {d : Nat} {P : o_P} {i : o_I} {r : o_R} (v0 : Nat) (v3 : Int32) (v4 : Int32)
    (h : o_O G v0 10 ∧ (((i v0 2) ≤ v4 → P (some (.int v3)) i r) ∧ (¬ (i v0 2) ≤ v4 → SpI G d mX10_siteThere [.ref v0, .int 0, .int v4] (fun x3 i3 => (∀ x5 : Int32, x5 = (if x3 = 0 then 0 else 1) → ∀ x6 : Int32, x6 = (v3 + x5) → SpI G d mX10_siteThere [.ref v0, .int 1, .int v4] (fun x7 i7 => (∀ x9 : Int32, x9 = (if x7 = 0 then 0 else 1) → ∀ x10 : Int32, x10 = (x6 + x9) → ∀ x11 : Int32, x11 = v4 + 1 → Ok G (d + 1) mX10_call P 106 [some (.ref v0), none, none, some (.int x10), some (.int x11)] [] i7 r)) i3 r)) i r))) :
    Ok G (d + 1) mX10_call P 106 [some (.ref v0), none, none, some (.int v3), some (.int v4)] [] i r := by
  refine ok_iload dX10_call_106 rfl ?_
  refine ok_aload_n 0 dX10_call_108 rfl rfl ?_
  obtain ⟨c1, h⟩ := h
  refine ok_geti 10 2 dX10_call_109 f10_120 rfl c1 ?_
  refine ok_ic_ge 157 dX10_call_112 (by decide) (fun z2 => ?_) (fun z2 => ?_)
  · replace h := h.1 z2
    refine ok_iload_n 3 dX10_call_157 rfl rfl ?_
    exact ok_iret .int dX10_call_158 rfl rfl h
  · replace h := h.2 z2
    refine ok_iload_n 3 dX10_call_115 rfl rfl ?_
    refine ok_aload_n 0 dX10_call_116 rfl rfl ?_
    refine ok_iconst 0 dX10_call_117 (by decide) ?_
    refine ok_iload dX10_call_118 rfl ?_
    refine ok_cVi (rest := [.int v3]) o_rc 10 [.int 0, .int v4] dX10_call_120 k10_216 c1 rfl rfl (Nat.le_of_ble_eq_true rfl) h (fun x3 i3 h => ?_)
    have k13 : ∀ x5 : Int32, x5 = (if x3 = 0 then 0 else 1) → Ok G (d + 1) mX10_call P 131 [some (.ref v0), none, none, none, some (.int v4)] [.int x5, .int v3] i3 r := by
      intro x5 ex5
      replace h := h x5 ex5
      refine ok_iadd dX10_call_131 ?_
      refine ok_topi (fun x6 ex6 => ?_)
      replace h := h x6 ex6
      refine ok_istore_n 3 dX10_call_132 rfl (by decide) [some (.ref v0), none, none, some (.int x6), some (.int v4)] rfl ?_
      refine ok_iload_n 3 dX10_call_133 rfl rfl ?_
      refine ok_aload_n 0 dX10_call_134 rfl rfl ?_
      refine ok_iconst 1 dX10_call_135 (by decide) ?_
      refine ok_iload dX10_call_136 rfl ?_
      refine ok_cVi (rest := [.int x6]) o_rc 10 [.int 1, .int v4] dX10_call_138 k10_216 c1 rfl rfl (Nat.le_of_ble_eq_true rfl) h (fun x7 i7 h => ?_)
      have k12 : ∀ x9 : Int32, x9 = (if x7 = 0 then 0 else 1) → Ok G (d + 1) mX10_call P 149 [some (.ref v0), none, none, none, some (.int v4)] [.int x9, .int x6] i7 r := by
        intro x9 ex9
        replace h := h x9 ex9
        refine ok_iadd dX10_call_149 ?_
        refine ok_topi (fun x10 ex10 => ?_)
        replace h := h x10 ex10
        refine ok_istore_n 3 dX10_call_150 rfl (by decide) [some (.ref v0), none, none, some (.int x10), some (.int v4)] rfl ?_
        refine ok_eqi (v4 + 1) (fun x11 ex11 => ?_)
        replace h := h x11 ex11
        refine ok_iinc 1 x11 dX10_call_151 rfl (by decide) ex11 (by decide) [some (.ref v0), none, none, some (.int x10), some (.int x11)] rfl ?_
        refine ok_goto 106 dX10_call_154 (by decide) ?_
        exact h
      clear h
      refine ok_if_eq 148 dX10_call_141 (by decide) (fun z8 => ?_) (fun z8 => ?_)
      · refine ok_iconst 0 dX10_call_148 (by decide) ?_
        refine ok_wk [some (.ref v0), none, none, none, some (.int v4)] ⟨rfl, rfl, trivial⟩ ?_
        exact k12 (0) (by simp only [if_pos z8])
      · refine ok_iconst 1 dX10_call_144 (by decide) ?_
        refine ok_goto 149 dX10_call_145 (by decide) ?_
        refine ok_wk [some (.ref v0), none, none, none, some (.int v4)] ⟨rfl, rfl, trivial⟩ ?_
        exact k12 (1) (by simp only [if_neg z8])
    clear h
    refine ok_if_eq 130 dX10_call_123 (by decide) (fun z4 => ?_) (fun z4 => ?_)
    · refine ok_iconst 0 dX10_call_130 (by decide) ?_
      refine ok_wk [some (.ref v0), none, none, none, some (.int v4)] ⟨rfl, rfl, trivial⟩ ?_
      exact k13 (0) (by simp only [if_pos z4])
    · refine ok_iconst 1 dX10_call_126 (by decide) ?_
      refine ok_goto 131 dX10_call_127 (by decide) ?_
      refine ok_wk [some (.ref v0), none, none, none, some (.int v4)] ⟨rfl, rfl, trivial⟩ ?_
      exact k13 (1) (by simp only [if_neg z4])

set_option maxRecDepth 100000 in
set_option maxHeartbeats 4000000 in
theorem sX10_clear_0 {G : o_G} {d : Nat} {P : o_P} {i : o_I} {r : o_R} (v0 : Nat) (v1 : Int32)
    (h : SpI G d mX10_outside [.int v1, .int 0, .int 1] (fun x1 i1 => ((x1 = 0 → o_O G v0 10 ∧ o_Y G (r v0 1) 1 ∧ vp_in v1 (o_len G (r v0 1)) ∧ ∀ i6 : o_I, i6 = o_up i1 (r v0 1) v1.toNatClampNeg 0 → P (some (.int 1)) i6 r) ∧ (¬ x1 = 0 → P (some (.int 0)) i1 r))) i r) :
    Ok G (d + 1) mX10_clear P 0 [some (.ref v0), some (.int v1)] [] i r := by
  refine ok_iload_n 1 dX10_clear_0 rfl rfl ?_
  refine ok_iconst 0 dX10_clear_1 (by decide) ?_
  refine ok_iconst 1 dX10_clear_2 (by decide) ?_
  refine ok_cSi (rest := []) o_rc [.int v1, .int 0, .int 1] dX10_clear_3 k10_89 rfl rfl (Nat.le_of_ble_eq_true rfl) h (fun x1 i1 h => ?_)
  refine ok_if_eq 11 dX10_clear_6 (by decide) (fun z2 => ?_) (fun z2 => ?_)
  · replace h := h.1 z2
    refine ok_aload_n 0 dX10_clear_11 rfl rfl ?_
    obtain ⟨c3, h⟩ := h
    refine ok_getr 10 1 dX10_clear_12 f10_13 rfl c3 ?_
    refine ok_iload_n 1 dX10_clear_15 rfl rfl ?_
    refine ok_iconst 0 dX10_clear_16 (by decide) ?_
    obtain ⟨c4, h⟩ := h
    obtain ⟨c5, h⟩ := h
    refine ok_iast dX10_clear_17 c4 c5 ?_
    refine ok_nmi (fun i6 ei6 => ?_)
    replace h := h i6 ei6
    refine ok_iconst 1 dX10_clear_18 (by decide) ?_
    exact ok_iret .boolean dX10_clear_19 rfl rfl h
  · replace h := h.2 z2
    refine ok_iconst 0 dX10_clear_9 (by decide) ?_
    exact ok_iret .boolean dX10_clear_10 rfl rfl h

set_option maxRecDepth 100000 in
set_option maxHeartbeats 4000000 in
theorem sX10_codeAt_0 {G : o_G} {d : Nat} {P : o_P} {i : o_I} {r : o_R} (v0 : Nat) (v1 : Int32)
    (h : o_O G v0 10 ∧ (((i v0 28) = 0 → o_Y G (r v0 22) 1 ∧ vp_in v1 (o_len G (r v0 22)) ∧ True) ∧ (¬ (i v0 28) = 0 → o_Y G (r v0 26) 1 ∧ vp_in v1 (o_len G (r v0 26)) ∧ True)) ∧ (∀ x7 : Int32, x7 = (if (i v0 28) = 0 then (i (r v0 22) v1.toNatClampNeg) else (i (r v0 26) v1.toNatClampNeg)) → P (some (.int x7)) i r)) :
    Ok G (d + 1) mX10_codeAt P 0 [some (.ref v0), some (.int v1)] [] i r := by
  refine ok_aload_n 0 dX10_codeAt_0 rfl rfl ?_
  obtain ⟨c1, h⟩ := h
  refine ok_geti 10 28 dX10_codeAt_1 f10_149 rfl c1 ?_
  obtain ⟨hs, h⟩ := h
  have k8 : ∀ x7 : Int32, x7 = (if (i v0 28) = 0 then (i (r v0 22) v1.toNatClampNeg) else (i (r v0 26) v1.toNatClampNeg)) → Ok G (d + 1) mX10_codeAt P 22 [none, none] [.int x7] i r := by
    intro x7 ex7
    replace h := h x7 ex7
    exact ok_iret .int dX10_codeAt_22 rfl rfl h
  clear h
  refine ok_if_eq 16 dX10_codeAt_4 (by decide) (fun z2 => ?_) (fun z2 => ?_)
  · replace hs := hs.1 z2
    refine ok_aload_n 0 dX10_codeAt_16 rfl rfl ?_
    refine ok_getr 10 22 dX10_codeAt_17 f10_65 rfl c1 ?_
    refine ok_iload_n 1 dX10_codeAt_20 rfl rfl ?_
    obtain ⟨c3, hs⟩  := hs
    obtain ⟨c4, hs⟩  := hs
    refine ok_iald dX10_codeAt_21 c3 c4 ?_
    refine ok_wk [none, none] trivial ?_
    exact k8 ((i (r v0 22) v1.toNatClampNeg)) (by simp only [if_pos z2])
  · replace hs := hs.2 z2
    refine ok_aload_n 0 dX10_codeAt_7 rfl rfl ?_
    refine ok_getr 10 26 dX10_codeAt_8 f10_74 rfl c1 ?_
    refine ok_iload_n 1 dX10_codeAt_11 rfl rfl ?_
    obtain ⟨c5, hs⟩  := hs
    obtain ⟨c6, hs⟩  := hs
    refine ok_iald dX10_codeAt_12 c5 c6 ?_
    refine ok_goto 22 dX10_codeAt_13 (by decide) ?_
    refine ok_wk [none, none] trivial ?_
    exact k8 ((i (r v0 26) v1.toNatClampNeg)) (by simp only [if_neg z2])

set_option maxRecDepth 100000 in
set_option maxHeartbeats 4000000 in
theorem sX10_codeOf_0 {G : o_G} {d : Nat} {P : o_P} {i : o_I} {r : o_R} (v0 : Int32)
    (h : (∀ x6 : Int32, x6 = (if v0 = 65 then 0 else (if v0 = 67 then 1 else (if v0 = 71 then 2 else (if v0 = 84 then 3 else (if v0 = 78 then 4 else (-1)))))) → P (some (.int x6)) i r)) :
    Ok G (d + 1) mX10_codeOf P 0 [some (.int v0)] [] i r := by
  refine ok_iload_n 0 dX10_codeOf_0 rfl rfl ?_
  refine ok_bipush 65 dX10_codeOf_1 (by decide) ?_
  have k7 : ∀ x6 : Int32, x6 = (if v0 = 65 then 0 else (if v0 = 67 then 1 else (if v0 = 71 then 2 else (if v0 = 84 then 3 else (if v0 = 78 then 4 else (-1)))))) → Ok G (d + 1) mX10_codeOf P 51 [none] [.int x6] i r := by
    intro x6 ex6
    replace h := h x6 ex6
    exact ok_iret .int dX10_codeOf_51 rfl rfl h
  clear h
  refine ok_ic_ne 10 dX10_codeOf_3 (by decide) (fun z1 => ?_) (fun z1 => ?_)
  · refine ok_iload_n 0 dX10_codeOf_10 rfl rfl ?_
    refine ok_bipush 67 dX10_codeOf_11 (by decide) ?_
    refine ok_ic_ne 20 dX10_codeOf_13 (by decide) (fun z2 => ?_) (fun z2 => ?_)
    · refine ok_iload_n 0 dX10_codeOf_20 rfl rfl ?_
      refine ok_bipush 71 dX10_codeOf_21 (by decide) ?_
      refine ok_ic_ne 30 dX10_codeOf_23 (by decide) (fun z3 => ?_) (fun z3 => ?_)
      · refine ok_iload_n 0 dX10_codeOf_30 rfl rfl ?_
        refine ok_bipush 84 dX10_codeOf_31 (by decide) ?_
        refine ok_ic_ne 40 dX10_codeOf_33 (by decide) (fun z4 => ?_) (fun z4 => ?_)
        · refine ok_iload_n 0 dX10_codeOf_40 rfl rfl ?_
          refine ok_bipush 78 dX10_codeOf_41 (by decide) ?_
          refine ok_ic_ne 50 dX10_codeOf_43 (by decide) (fun z5 => ?_) (fun z5 => ?_)
          · refine ok_iconst (-1) dX10_codeOf_50 (by decide) ?_
            refine ok_wk [none] trivial ?_
            exact k7 ((-1)) (by simp only [if_neg z1, if_neg z2, if_neg z3, if_neg z4, if_neg z5])
          · refine ok_iconst 4 dX10_codeOf_46 (by decide) ?_
            refine ok_goto 51 dX10_codeOf_47 (by decide) ?_
            refine ok_wk [none] trivial ?_
            exact k7 (4) (by simp only [if_neg z1, if_neg z2, if_neg z3, if_neg z4, if_pos z5])
        · refine ok_iconst 3 dX10_codeOf_36 (by decide) ?_
          refine ok_goto 51 dX10_codeOf_37 (by decide) ?_
          refine ok_wk [none] trivial ?_
          exact k7 (3) (by simp only [if_neg z1, if_neg z2, if_neg z3, if_pos z4])
      · refine ok_iconst 2 dX10_codeOf_26 (by decide) ?_
        refine ok_goto 51 dX10_codeOf_27 (by decide) ?_
        refine ok_wk [none] trivial ?_
        exact k7 (2) (by simp only [if_neg z1, if_neg z2, if_pos z3])
    · refine ok_iconst 1 dX10_codeOf_16 (by decide) ?_
      refine ok_goto 51 dX10_codeOf_17 (by decide) ?_
      refine ok_wk [none] trivial ?_
      exact k7 (1) (by simp only [if_neg z1, if_pos z2])
  · refine ok_iconst 0 dX10_codeOf_6 (by decide) ?_
    refine ok_goto 51 dX10_codeOf_7 (by decide) ?_
    refine ok_wk [none] trivial ?_
    exact k7 (0) (by simp only [if_pos z1])


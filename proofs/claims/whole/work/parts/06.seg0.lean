set_option maxRecDepth 100000 in
set_option maxHeartbeats 4000000 in
theorem sX0_call_0 {G : o_G} {d : Nat} {P : o_P} {i : o_I} {r : o_R} (v0 : Nat) (v1 : Int32)
    (h : ((v1 < 0 → P (some (.int (-1))) i r) ∧ (¬ v1 < 0 → ((v1 ≤ 3 → o_O G v0 0 ∧ o_O G (r v0 2) 3 ∧ SpI G d mX3_parseReference [.ref (r v0 2), .ref (r v0 9)] (fun x5 i5 => ((x5 = (-1) → o_O G (r v0 3) 3 ∧ SpI G d mX3_parseReads [.ref (r v0 3), .ref (r v0 9)] (fun x8 i8 => ((x8 = (-1) → SpVr G d mX0_showDraft [.ref v0] (fun i10 r10 => o_O G (r10 v0 5) 4 ∧ SpV G d mX4_forget [.ref (r10 v0 5)] (fun i12 => Ok G (d + 1) mX0_call P 70 [some (.ref v0), some (.int v1), none, some (.int 0)] [] i12 r10) i10 r10) i8 r) ∧ (¬ x8 = (-1) → P (some (.int ((-2000) - x8))) i8 r))) i5 r) ∧ (¬ x5 = (-1) → P (some (.int ((-1000) - x5))) i5 r))) i r) ∧ (¬ v1 ≤ 3 → P (some (.int (-1))) i r))))) :
    Ok G (d + 1) mX0_call P 0 [some (.ref v0), some (.int v1), none, none] [] i r := by
  refine ok_iload_n 1 dX0_call_0 rfl rfl ?_
  refine ok_if_lt 9 dX0_call_1 (by decide) (fun z1 => ?_) (fun z1 => ?_)
  · replace h := h.1 z1
    refine ok_iconst (-1) dX0_call_9 (by decide) ?_
    exact ok_iret .int dX0_call_10 rfl rfl h
  · replace h := h.2 z1
    refine ok_iload_n 1 dX0_call_4 rfl rfl ?_
    refine ok_iconst 3 dX0_call_5 (by decide) ?_
    refine ok_ic_le 11 dX0_call_6 (by decide) (fun z2 => ?_) (fun z2 => ?_)
    · replace h := h.1 z2
      refine ok_aload_n 0 dX0_call_11 rfl rfl ?_
      obtain ⟨c3, h⟩ := h
      refine ok_getr 0 2 dX0_call_12 f0_26 rfl c3 ?_
      refine ok_aload_n 0 dX0_call_15 rfl rfl ?_
      refine ok_getr 0 9 dX0_call_16 f0_68 rfl c3 ?_
      obtain ⟨c4, h⟩ := h
      refine ok_cVi (rest := []) o_rc 3 [.ref (r v0 9)] dX0_call_19 k0_83 c4 rfl rfl (Nat.le_of_ble_eq_true rfl) h (fun x5 i5 h => ?_)
      refine ok_istore_n 2 dX0_call_22 rfl (by decide) [some (.ref v0), some (.int v1), some (.int x5), none] rfl ?_
      refine ok_iload_n 2 dX0_call_23 rfl rfl ?_
      refine ok_iconst (-1) dX0_call_24 (by decide) ?_
      refine ok_ic_eq 34 dX0_call_25 (by decide) (fun z6 => ?_) (fun z6 => ?_)
      · replace h := h.1 z6
        refine ok_aload_n 0 dX0_call_34 rfl rfl ?_
        refine ok_getr 0 3 dX0_call_35 f0_30 rfl c3 ?_
        refine ok_aload_n 0 dX0_call_38 rfl rfl ?_
        refine ok_getr 0 9 dX0_call_39 f0_68 rfl c3 ?_
        obtain ⟨c7, h⟩ := h
        refine ok_cVi (rest := []) o_rc 3 [.ref (r v0 9)] dX0_call_42 k0_87 c7 rfl rfl (Nat.le_of_ble_eq_true rfl) h (fun x8 i8 h => ?_)
        refine ok_istore_n 2 dX0_call_45 rfl (by decide) [some (.ref v0), some (.int v1), some (.int x8), none] rfl ?_
        refine ok_iload_n 2 dX0_call_46 rfl rfl ?_
        refine ok_iconst (-1) dX0_call_47 (by decide) ?_
        refine ok_ic_eq 57 dX0_call_48 (by decide) (fun z9 => ?_) (fun z9 => ?_)
        · replace h := h.1 z9
          refine ok_aload_n 0 dX0_call_57 rfl rfl ?_
          refine ok_cVvr (rest := []) o_rc 0 [] dX0_call_58 k0_90 c3 rfl rfl (Nat.le_of_ble_eq_true rfl) h (fun i10 r10 h => ?_)
          refine ok_aload_n 0 dX0_call_61 rfl rfl ?_
          refine ok_getr 0 5 dX0_call_62 f0_43 rfl c3 ?_
          obtain ⟨c11, h⟩ := h
          refine ok_cVv (rest := []) o_rc 4 [] dX0_call_65 k0_93 c11 rfl rfl (Nat.le_of_ble_eq_true rfl) h (fun i12 h => ?_)
          refine ok_iconst 0 dX0_call_68 (by decide) ?_
          refine ok_istore_n 3 dX0_call_69 rfl (by decide) [some (.ref v0), some (.int v1), some (.int x8), some (.int 0)] rfl ?_
          refine ok_wk [some (.ref v0), some (.int v1), none, some (.int 0)] ⟨rfl, rfl, rfl, trivial⟩ ?_
          exact h
        · replace h := h.2 z9
          refine ok_sipush (-2000) dX0_call_51 (by decide) ?_
          refine ok_iload_n 2 dX0_call_54 rfl rfl ?_
          refine ok_isub dX0_call_55 ?_
          exact ok_iret .int dX0_call_56 rfl rfl h
      · replace h := h.2 z6
        refine ok_sipush (-1000) dX0_call_28 (by decide) ?_
        refine ok_iload_n 2 dX0_call_31 rfl rfl ?_
        refine ok_isub dX0_call_32 ?_
        exact ok_iret .int dX0_call_33 rfl rfl h
    · replace h := h.2 z2
      refine ok_iconst (-1) dX0_call_9 (by decide) ?_
      exact ok_iret .int dX0_call_10 rfl rfl h

set_option maxRecDepth 100000 in
set_option maxHeartbeats 4000000 in
theorem sX0_call_70 {G : o_G} {d : Nat} {P : o_P} {i : o_I} {r : o_R} (v0 : Nat) (v1 : Int32) (v3 : Int32)
    (h : o_O G v0 0 ∧ o_O G (r v0 8) 6 ∧ (((i (r v0 8) 5) ≤ v3 → SpI G d mX0_reportSites [.ref v0] (fun x4 i4 => P (some (.int x4)) i4 r) i r) ∧ (¬ (i (r v0 8) 5) ≤ v3 → o_Y G (r (r v0 8) 4) 4 ∧ vp_in v3 (o_len G (r (r v0 8) 4)) ∧ o_O G (r v0 4) 1 ∧ SpV G d mX1_settle [.ref (r v0 4), .ref (r (r (r v0 8) 4) v3.toNatClampNeg), .ref (r v0 8), .int v1] (fun i8 => o_O G (r v0 5) 4 ∧ SpV G d mX4_gather [.ref (r v0 5), .ref (r (r (r v0 8) 4) v3.toNatClampNeg)] (fun i10 => ∀ x11 : Int32, x11 = v3 + 1 → Ok G (d + 1) mX0_call P 70 [some (.ref v0), some (.int v1), none, some (.int x11)] [] i10 r) i8 r) i r))) :
    Ok G (d + 1) mX0_call P 70 [some (.ref v0), some (.int v1), none, some (.int v3)] [] i r := by
  refine ok_iload_n 3 dX0_call_70 rfl rfl ?_
  refine ok_aload_n 0 dX0_call_71 rfl rfl ?_
  obtain ⟨c1, h⟩ := h
  refine ok_getr 0 8 dX0_call_72 f0_64 rfl c1 ?_
  obtain ⟨c2, h⟩ := h
  refine ok_geti 6 5 dX0_call_75 f0_96 rfl c2 ?_
  refine ok_ic_ge 124 dX0_call_78 (by decide) (fun z3 => ?_) (fun z3 => ?_)
  · replace h := h.1 z3
    refine ok_aload_n 0 dX0_call_124 rfl rfl ?_
    refine ok_cVi (rest := []) o_rc 0 [] dX0_call_125 k0_111 c1 rfl rfl (Nat.le_of_ble_eq_true rfl) h (fun x4 i4 h => ?_)
    exact ok_iret .int dX0_call_128 rfl rfl h
  · replace h := h.2 z3
    refine ok_aload_n 0 dX0_call_81 rfl rfl ?_
    refine ok_getr 0 4 dX0_call_82 f0_36 rfl c1 ?_
    refine ok_aload_n 0 dX0_call_85 rfl rfl ?_
    refine ok_getr 0 8 dX0_call_86 f0_64 rfl c1 ?_
    refine ok_getr 6 4 dX0_call_89 f0_99 rfl c2 ?_
    refine ok_iload_n 3 dX0_call_92 rfl rfl ?_
    obtain ⟨c5, h⟩ := h
    obtain ⟨c6, h⟩ := h
    refine ok_ald4 dX0_call_93 c5 c6 ?_
    refine ok_aload_n 0 dX0_call_94 rfl rfl ?_
    refine ok_getr 0 8 dX0_call_95 f0_64 rfl c1 ?_
    refine ok_iload_n 1 dX0_call_98 rfl rfl ?_
    obtain ⟨c7, h⟩ := h
    refine ok_cVv (rest := []) o_rc 1 [.ref (r (r (r v0 8) 4) v3.toNatClampNeg), .ref (r v0 8), .int v1] dX0_call_99 k0_103 c7 rfl rfl (Nat.le_of_ble_eq_true rfl) h (fun i8 h => ?_)
    refine ok_aload_n 0 dX0_call_102 rfl rfl ?_
    refine ok_getr 0 5 dX0_call_103 f0_43 rfl c1 ?_
    refine ok_aload_n 0 dX0_call_106 rfl rfl ?_
    refine ok_getr 0 8 dX0_call_107 f0_64 rfl c1 ?_
    refine ok_getr 6 4 dX0_call_110 f0_99 rfl c2 ?_
    refine ok_iload_n 3 dX0_call_113 rfl rfl ?_
    refine ok_ald4 dX0_call_114 c5 c6 ?_
    obtain ⟨c9, h⟩ := h
    refine ok_cVv (rest := []) o_rc 4 [.ref (r (r (r v0 8) 4) v3.toNatClampNeg)] dX0_call_115 k0_107 c9 rfl rfl (Nat.le_of_ble_eq_true rfl) h (fun i10 h => ?_)
    refine ok_eqi (v3 + 1) (fun x11 ex11 => ?_)
    replace h := h x11 ex11
    refine ok_iinc 1 x11 dX0_call_118 rfl (by decide) ex11 (by decide) [some (.ref v0), some (.int v1), none, some (.int x11)] rfl ?_
    refine ok_goto 70 dX0_call_121 (by decide) ?_
    exact h

set_option maxRecDepth 100000 in
set_option maxHeartbeats 4000000 in
theorem sX0_clear_0 {G : o_G} {d : Nat} {P : o_P} {i : o_I} {r : o_R} (v0 : Nat) (v1 : Int32)
    (h : o_O G v0 0 ∧ SpQ G d mX0_textOf [.ref v0, .int v1] (fun x2 i2 => ((∀ y3 : Nat, x2 = some y3 → o_O G y3 9 ∧ ∀ i5 : o_I, i5 = o_up i2 y3 1 0 → P (some (.int 1)) i5 r) ∧ (x2 = none → P (some (.int 0)) i2 r))) i r) :
    Ok G (d + 1) mX0_clear P 0 [some (.ref v0), some (.int v1), none] [] i r := by
  refine ok_aload_n 0 dX0_clear_0 rfl rfl ?_
  refine ok_iload_n 1 dX0_clear_1 rfl rfl ?_
  obtain ⟨c1, h⟩ := h
  refine ok_cVq (rest := []) o_rc 0 [.int v1] dX0_clear_2 k0_71 c1 rfl rfl (Nat.le_of_ble_eq_true rfl) h (fun x2 i2 h => ?_)
  cases x2 with
  | some y3 =>
    replace h := h.1 y3 rfl
    refine ok_astore_n 2 dX0_clear_5 rfl (by decide) [some (.ref v0), some (.int v1), some (.ref y3)] rfl ?_
    refine ok_aload_n 2 dX0_clear_6 rfl rfl ?_
    refine ok_ifnonnull 12 dX0_clear_7 (by decide) ?_
    refine ok_aload_n 2 dX0_clear_12 rfl rfl ?_
    refine ok_iconst 0 dX0_clear_13 (by decide) ?_
    obtain ⟨c4, h⟩ := h
    refine ok_puti 9 1 .int dX0_clear_14 f0_79 rfl rfl (by decide +kernel) rfl rfl c4 ?_
    refine ok_nmi (fun i5 ei5 => ?_)
    replace h := h i5 ei5
    refine ok_iconst 1 dX0_clear_17 (by decide) ?_
    exact ok_iret .boolean dX0_clear_18 rfl rfl h
  | none =>
    replace h := h.2 rfl
    refine ok_astore_nN 2 dX0_clear_5 rfl (by decide) [some (.ref v0), some (.int v1), some .null] rfl ?_
    refine ok_aload_nN 2 dX0_clear_6 rfl rfl ?_
    refine ok_ifnonnullN dX0_clear_7 ?_
    refine ok_iconst 0 dX0_clear_10 (by decide) ?_
    exact ok_iret .boolean dX0_clear_11 rfl rfl h

set_option maxRecDepth 100000 in
set_option maxHeartbeats 4000000 in
theorem sX0_length_0 {G : o_G} {d : Nat} {P : o_P} {i : o_I} {r : o_R} (v0 : Nat)
    (h : o_O G v0 0 ∧ o_O G (r v0 7) 8 ∧ P (some (.int (i (r v0 7) 1))) i r) :
    Ok G (d + 1) mX0_length P 0 [some (.ref v0)] [] i r := by
  refine ok_aload_n 0 dX0_length_0 rfl rfl ?_
  obtain ⟨c1, h⟩ := h
  refine ok_getr 0 7 dX0_length_1 f0_57 rfl c1 ?_
  obtain ⟨c2, h⟩ := h
  refine ok_geti 8 1 dX0_length_4 f0_145 rfl c2 ?_
  exact ok_iret .int dX0_length_7 rfl rfl h

set_option maxRecDepth 100000 in
set_option maxHeartbeats 4000000 in
theorem sX0_letter_0 {G : o_G} {d : Nat} {P : o_P} {i : o_I} {r : o_R} (v0 : Nat) (v1 : Int32)
    (h : ((v1 < 0 → True) ∧ (¬ v1 < 0 → o_O G v0 0 ∧ o_O G (r v0 7) 8 ∧ ((v1 < (i (r v0 7) 1) → o_Y G (r (r v0 7) 0) 2 ∧ vp_in v1 (o_len G (r (r v0 7) 0)) ∧ True) ∧ (¬ v1 < (i (r v0 7) 1) → True)))) ∧ (∀ x7 : Int32, x7 = (if v1 < 0 then 0 else (if v1 < (i (r v0 7) 1) then (i (r (r v0 7) 0) v1.toNatClampNeg) else 0)) → P (some (.int x7)) i r)) :
    Ok G (d + 1) mX0_letter P 0 [some (.ref v0), some (.int v1)] [] i r := by
  refine ok_iload_n 1 dX0_letter_0 rfl rfl ?_
  obtain ⟨hs, h⟩ := h
  have k8 : ∀ x7 : Int32, x7 = (if v1 < 0 then 0 else (if v1 < (i (r v0 7) 1) then (i (r (r v0 7) 0) v1.toNatClampNeg) else 0)) → Ok G (d + 1) mX0_letter P 28 [none, none] [.int x7] i r := by
    intro x7 ex7
    replace h := h x7 ex7
    exact ok_iret .int dX0_letter_28 rfl rfl h
  clear h
  refine ok_if_lt 15 dX0_letter_1 (by decide) (fun z1 => ?_) (fun z1 => ?_)
  · replace hs := hs.1 z1
    refine ok_iconst 0 dX0_letter_15 (by decide) ?_
    refine ok_goto 28 dX0_letter_16 (by decide) ?_
    refine ok_wk [none, none] trivial ?_
    exact k8 (0) (by simp only [if_pos z1])
  · replace hs := hs.2 z1
    refine ok_iload_n 1 dX0_letter_4 rfl rfl ?_
    refine ok_aload_n 0 dX0_letter_5 rfl rfl ?_
    obtain ⟨c2, hs⟩  := hs
    refine ok_getr 0 7 dX0_letter_6 f0_57 rfl c2 ?_
    obtain ⟨c3, hs⟩  := hs
    refine ok_geti 8 1 dX0_letter_9 f0_145 rfl c3 ?_
    refine ok_ic_lt 19 dX0_letter_12 (by decide) (fun z4 => ?_) (fun z4 => ?_)
    · replace hs := hs.1 z4
      refine ok_aload_n 0 dX0_letter_19 rfl rfl ?_
      refine ok_getr 0 7 dX0_letter_20 f0_57 rfl c2 ?_
      refine ok_getr 8 0 dX0_letter_23 f0_146 rfl c3 ?_
      refine ok_iload_n 1 dX0_letter_26 rfl rfl ?_
      obtain ⟨c5, hs⟩  := hs
      obtain ⟨c6, hs⟩  := hs
      refine ok_cald dX0_letter_27 c5 c6 ?_
      refine ok_wk [none, none] trivial ?_
      exact k8 ((i (r (r v0 7) 0) v1.toNatClampNeg)) (by simp only [if_neg z1, if_pos z4])
    · replace hs := hs.2 z4
      refine ok_iconst 0 dX0_letter_15 (by decide) ?_
      refine ok_goto 28 dX0_letter_16 (by decide) ?_
      refine ok_wk [none, none] trivial ?_
      exact k8 (0) (by simp only [if_neg z1, if_neg z4])

set_option maxRecDepth 100000 in
set_option maxHeartbeats 4000000 in
theorem sX0_links_0 {G : o_G} {d : Nat} {P : o_P} {i : o_I} {r : o_R} (v0 : Nat) (v1 : Int32) (v2 : Int32)
    (h : ((v1 < 0 → P (some (.int 0)) i r) ∧ (¬ v1 < 0 → o_O G v0 0 ∧ o_O G (r v0 8) 6 ∧ ((v1 < (i (r v0 8) 3) → o_O G (r v0 5) 4 ∧ o_Y G (r (r v0 5) 1) 5 ∧ vp_in v1 (o_len G (r (r v0 5) 1)) ∧ o_O G (r (r (r v0 5) 1) v1.toNatClampNeg) 7 ∧ SpI G d mX7_countOfKind [.ref (r (r (r v0 5) 1) v1.toNatClampNeg), .int v2] (fun x9 i9 => P (some (.int x9)) i9 r) i r) ∧ (¬ v1 < (i (r v0 8) 3) → P (some (.int 0)) i r))))) :
    Ok G (d + 1) mX0_links P 0 [some (.ref v0), some (.int v1), some (.int v2)] [] i r := by
  refine ok_iload_n 1 dX0_links_0 rfl rfl ?_
  refine ok_if_lt 15 dX0_links_1 (by decide) (fun z1 => ?_) (fun z1 => ?_)
  · replace h := h.1 z1
    refine ok_iconst 0 dX0_links_15 (by decide) ?_
    exact ok_iret .int dX0_links_16 rfl rfl h
  · replace h := h.2 z1
    refine ok_iload_n 1 dX0_links_4 rfl rfl ?_
    refine ok_aload_n 0 dX0_links_5 rfl rfl ?_
    obtain ⟨c2, h⟩ := h
    refine ok_getr 0 8 dX0_links_6 f0_64 rfl c2 ?_
    obtain ⟨c3, h⟩ := h
    refine ok_geti 6 3 dX0_links_9 f0_127 rfl c3 ?_
    refine ok_ic_lt 17 dX0_links_12 (by decide) (fun z4 => ?_) (fun z4 => ?_)
    · replace h := h.1 z4
      refine ok_aload_n 0 dX0_links_17 rfl rfl ?_
      refine ok_getr 0 5 dX0_links_18 f0_43 rfl c2 ?_
      obtain ⟨c5, h⟩ := h
      refine ok_getr 4 1 dX0_links_21 f0_139 rfl c5 ?_
      refine ok_iload_n 1 dX0_links_24 rfl rfl ?_
      obtain ⟨c6, h⟩ := h
      obtain ⟨c7, h⟩ := h
      refine ok_ald5 dX0_links_25 c6 c7 ?_
      refine ok_iload_n 2 dX0_links_26 rfl rfl ?_
      obtain ⟨c8, h⟩ := h
      refine ok_cVi (rest := []) o_rc 7 [.int v2] dX0_links_27 k0_142 c8 rfl rfl (Nat.le_of_ble_eq_true rfl) h (fun x9 i9 h => ?_)
      exact ok_iret .int dX0_links_30 rfl rfl h
    · replace h := h.2 z4
      refine ok_iconst 0 dX0_links_15 (by decide) ?_
      exact ok_iret .int dX0_links_16 rfl rfl h

set_option maxRecDepth 100000 in
set_option maxHeartbeats 4000000 in
theorem sX0_place_0 {G : o_G} {d : Nat} {P : o_P} {i : o_I} {r : o_R} (v0 : Nat) (v1 : Int32) (v2 : Int32)
    (h : ((v1 < 0 → P (some (.int (-1))) i r) ∧ (¬ v1 < 0 → o_O G v0 0 ∧ o_O G (r v0 8) 6 ∧ ((v1 < (i (r v0 8) 5) → o_Y G (r (r v0 8) 4) 4 ∧ vp_in v1 (o_len G (r (r v0 8) 4)) ∧ ((¬ v2 = 0 → o_O G (r (r (r v0 8) 4) v1.toNatClampNeg) 5 ∧ ((¬ (i (r (r (r v0 8) 4) v1.toNatClampNeg) 3) = 0 → P (some (.int (-1))) i r) ∧ ((i (r (r (r v0 8) 4) v1.toNatClampNeg) 3) = 0 → SpI G d mX5_placement [.ref (r (r (r v0 8) 4) v1.toNatClampNeg), .int v2] (fun x10 i10 => P (some (.int x10)) i10 r) i r))) ∧ (v2 = 0 → o_O G (r (r (r v0 8) 4) v1.toNatClampNeg) 5 ∧ P (some (.int (i (r (r (r v0 8) 4) v1.toNatClampNeg) 3))) i r))) ∧ (¬ v1 < (i (r v0 8) 5) → P (some (.int (-1))) i r))))) :
    Ok G (d + 1) mX0_place P 0 [some (.ref v0), some (.int v1), some (.int v2), none] [] i r := by
  refine ok_iload_n 1 dX0_place_0 rfl rfl ?_
  refine ok_if_lt 15 dX0_place_1 (by decide) (fun z1 => ?_) (fun z1 => ?_)
  · replace h := h.1 z1
    refine ok_iconst (-1) dX0_place_15 (by decide) ?_
    exact ok_iret .int dX0_place_16 rfl rfl h
  · replace h := h.2 z1
    refine ok_iload_n 1 dX0_place_4 rfl rfl ?_
    refine ok_aload_n 0 dX0_place_5 rfl rfl ?_
    obtain ⟨c2, h⟩ := h
    refine ok_getr 0 8 dX0_place_6 f0_64 rfl c2 ?_
    obtain ⟨c3, h⟩ := h
    refine ok_geti 6 5 dX0_place_9 f0_96 rfl c3 ?_
    refine ok_ic_lt 17 dX0_place_12 (by decide) (fun z4 => ?_) (fun z4 => ?_)
    · replace h := h.1 z4
      refine ok_aload_n 0 dX0_place_17 rfl rfl ?_
      refine ok_getr 0 8 dX0_place_18 f0_64 rfl c2 ?_
      refine ok_getr 6 4 dX0_place_21 f0_99 rfl c3 ?_
      refine ok_iload_n 1 dX0_place_24 rfl rfl ?_
      obtain ⟨c5, h⟩ := h
      obtain ⟨c6, h⟩ := h
      refine ok_ald4 dX0_place_25 c5 c6 ?_
      refine ok_astore_n 3 dX0_place_26 rfl (by decide) [some (.ref v0), some (.int v1), some (.int v2), some (.ref (r (r (r v0 8) 4) v1.toNatClampNeg))] rfl ?_
      refine ok_iload_n 2 dX0_place_27 rfl rfl ?_
      refine ok_if_ne 36 dX0_place_28 (by decide) (fun z7 => ?_) (fun z7 => ?_)
      · replace h := h.1 z7
        refine ok_aload_n 3 dX0_place_36 rfl rfl ?_
        obtain ⟨c8, h⟩ := h
        refine ok_geti 5 3 dX0_place_37 f0_115 rfl c8 ?_
        refine ok_if_ne 51 dX0_place_40 (by decide) (fun z9 => ?_) (fun z9 => ?_)
        · replace h := h.1 z9
          refine ok_iconst (-1) dX0_place_51 (by decide) ?_
          exact ok_iret .int dX0_place_52 rfl rfl h
        · replace h := h.2 z9
          refine ok_aload_n 3 dX0_place_43 rfl rfl ?_
          refine ok_iload_n 2 dX0_place_44 rfl rfl ?_
          refine ok_cVi (rest := []) o_rc 5 [.int v2] dX0_place_45 k0_120 c8 rfl rfl (Nat.le_of_ble_eq_true rfl) h (fun x10 i10 h => ?_)
          refine ok_goto 52 dX0_place_48 (by decide) ?_
          exact ok_iret .int dX0_place_52 rfl rfl h
      · replace h := h.2 z7
        refine ok_aload_n 3 dX0_place_31 rfl rfl ?_
        obtain ⟨c11, h⟩ := h
        refine ok_geti 5 3 dX0_place_32 f0_115 rfl c11 ?_
        exact ok_iret .int dX0_place_35 rfl rfl h
    · replace h := h.2 z4
      refine ok_iconst (-1) dX0_place_15 (by decide) ?_
      exact ok_iret .int dX0_place_16 rfl rfl h

set_option maxRecDepth 100000 in
set_option maxHeartbeats 4000000 in
theorem sX0_put_0 {G : o_G} {d : Nat} {P : o_P} {i : o_I} {r : o_R} (v0 : Nat) (v1 : Int32) (v2 : Int32) (v3 : Int32)
    (h : o_O G v0 0 ∧ SpQ G d mX0_textOf [.ref v0, .int v1] (fun x2 i2 => ((∀ y3 : Nat, x2 = some y3 → o_O G y3 9 ∧ SpI G d mX9_append [.ref y3, .int v2, .int v3] (fun x5 i5 => (∀ x7 : Int32, x7 = (if x5 = 0 then 0 else 1) → (x7 = 0 ∨ x7 = 1) ∧ P (some (.int x7)) i5 r)) i2 r) ∧ (x2 = none → P (some (.int 0)) i2 r))) i r) :
    Ok G (d + 1) mX0_put P 0 [some (.ref v0), some (.int v1), some (.int v2), some (.int v3), none] [] i r := by
  refine ok_aload_n 0 dX0_put_0 rfl rfl ?_
  refine ok_iload_n 1 dX0_put_1 rfl rfl ?_
  obtain ⟨c1, h⟩ := h
  refine ok_cVq (rest := []) o_rc 0 [.int v1] dX0_put_2 k0_71 c1 rfl rfl (Nat.le_of_ble_eq_true rfl) h (fun x2 i2 h => ?_)
  cases x2 with
  | some y3 =>
    replace h := h.1 y3 rfl
    refine ok_astore dX0_put_5 (by decide) [some (.ref v0), some (.int v1), some (.int v2), some (.int v3), some (.ref y3)] rfl ?_
    refine ok_aload dX0_put_7 rfl ?_
    refine ok_ifnull dX0_put_9 ?_
    refine ok_aload dX0_put_12 rfl ?_
    refine ok_iload_n 2 dX0_put_14 rfl rfl ?_
    refine ok_iload_n 3 dX0_put_15 rfl rfl ?_
    obtain ⟨c4, h⟩ := h
    refine ok_cVi (rest := []) o_rc 9 [.int v2, .int v3] dX0_put_16 k0_75 c4 rfl rfl (Nat.le_of_ble_eq_true rfl) h (fun x5 i5 h => ?_)
    have k9 : ∀ x7 : Int32, x7 = (if x5 = 0 then 0 else 1) → Ok G (d + 1) mX0_put P 27 [none, none, none, none, none] [.int x7] i5 r := by
      intro x7 ex7
      replace h := h x7 ex7
      obtain ⟨c8, h⟩ := h
      exact ok_iret .boolean dX0_put_27 rfl (o_bool c8).1 h
    clear h
    refine ok_if_eq 26 dX0_put_19 (by decide) (fun z6 => ?_) (fun z6 => ?_)
    · refine ok_iconst 0 dX0_put_26 (by decide) ?_
      refine ok_wk [none, none, none, none, none] trivial ?_
      exact k9 (0) (by simp only [if_pos z6])
    · refine ok_iconst 1 dX0_put_22 (by decide) ?_
      refine ok_goto 27 dX0_put_23 (by decide) ?_
      refine ok_wk [none, none, none, none, none] trivial ?_
      exact k9 (1) (by simp only [if_neg z6])
  | none =>
    replace h := h.2 rfl
    refine ok_astoreN dX0_put_5 (by decide) [some (.ref v0), some (.int v1), some (.int v2), some (.int v3), some .null] rfl ?_
    refine ok_aloadN dX0_put_7 rfl ?_
    refine ok_ifnullN 26 dX0_put_9 (by decide) ?_
    refine ok_iconst 0 dX0_put_26 (by decide) ?_
    exact ok_iret .boolean dX0_put_27 rfl rfl h

set_option maxRecDepth 100000 in
set_option maxHeartbeats 4000000 in
theorem sX0_reads_0 {G : o_G} {d : Nat} {P : o_P} {i : o_I} {r : o_R} (v0 : Nat)
    (h : o_O G v0 0 ∧ o_O G (r v0 8) 6 ∧ P (some (.int (i (r v0 8) 5))) i r) :
    Ok G (d + 1) mX0_reads P 0 [some (.ref v0)] [] i r := by
  refine ok_aload_n 0 dX0_reads_0 rfl rfl ?_
  obtain ⟨c1, h⟩ := h
  refine ok_getr 0 8 dX0_reads_1 f0_64 rfl c1 ?_
  obtain ⟨c2, h⟩ := h
  refine ok_geti 6 5 dX0_reads_4 f0_96 rfl c2 ?_
  exact ok_iret .int dX0_reads_7 rfl rfl h

set_option maxRecDepth 100000 in
set_option maxHeartbeats 4000000 in
theorem sX0_reportSites_0 {G : o_G} {d : Nat} {P : o_P} {i : o_I} {r : o_R} (v0 : Nat)
    (h : o_O G v0 0 ∧ o_O G (r v0 7) 8 ∧ SpV G d mX8_begin [.ref (r v0 7)] (fun i3 => Ok G (d + 1) mX0_reportSites P 11 [some (.ref v0), some (.int 0), some (.int 0)] [] i3 r) i r) :
    Ok G (d + 1) mX0_reportSites P 0 [some (.ref v0), none, none] [] i r := by
  refine ok_iconst 0 dX0_reportSites_0 (by decide) ?_
  refine ok_istore_n 1 dX0_reportSites_1 rfl (by decide) [some (.ref v0), some (.int 0), none] rfl ?_
  refine ok_aload_n 0 dX0_reportSites_2 rfl rfl ?_
  obtain ⟨c1, h⟩ := h
  refine ok_getr 0 7 dX0_reportSites_3 f0_57 rfl c1 ?_
  obtain ⟨c2, h⟩ := h
  refine ok_cVv (rest := []) o_rc 8 [] dX0_reportSites_6 k0_150 c2 rfl rfl (Nat.le_of_ble_eq_true rfl) h (fun i3 h => ?_)
  refine ok_iconst 0 dX0_reportSites_9 (by decide) ?_
  refine ok_istore_n 2 dX0_reportSites_10 rfl (by decide) [some (.ref v0), some (.int 0), some (.int 0)] rfl ?_
  exact h

set_option maxRecDepth 100000 in
set_option maxHeartbeats 4000000 in
theorem sX0_reportSites_11 {G : o_G} {d : Nat} {P : o_P} {i : o_I} {r : o_R} (v0 : Nat) (v1 : Int32) (v2 : Int32)
    (h : o_O G v0 0 ∧ o_O G (r v0 8) 6 ∧ (((i (r v0 8) 3) ≤ v2 → P (some (.int v1)) i r) ∧ (¬ (i (r v0 8) 3) ≤ v2 → o_O G (r v0 5) 4 ∧ o_Y G (r (r v0 5) 0) 5 ∧ vp_in v2 (o_len G (r (r v0 5) 0)) ∧ o_Y G (r (r v0 8) 2) 1 ∧ vp_in v2 (o_len G (r (r v0 8) 2)) ∧ o_O G (r v0 6) 2 ∧ SpV G d mX2_weigh [.ref (r v0 6), .ref (r (r (r v0 5) 0) v2.toNatClampNeg), .int (i (r (r v0 8) 2) v2.toNatClampNeg)] (fun i10 => SpI G d mX2_differs [.ref (r v0 6)] (fun x11 i11 => ((x11 = 0 → Ok G (d + 1) mX0_reportSites P 76 [some (.ref v0), some (.int v1), some (.int v2)] [] i11 r) ∧ (¬ x11 = 0 → o_O G (r v0 7) 8 ∧ SpV G d mX8_writeBaseSite [.ref (r v0 7), .ref (r v0 8), .int v2, .ref (r v0 6)] (fun i14 => ∀ x15 : Int32, x15 = v1 + 1 → Ok G (d + 1) mX0_reportSites P 76 [some (.ref v0), some (.int x15), some (.int v2)] [] i14 r) i11 r))) i10 r) i r))) :
    Ok G (d + 1) mX0_reportSites P 11 [some (.ref v0), some (.int v1), some (.int v2)] [] i r := by
  refine ok_iload_n 2 dX0_reportSites_11 rfl rfl ?_
  refine ok_aload_n 0 dX0_reportSites_12 rfl rfl ?_
  obtain ⟨c1, h⟩ := h
  refine ok_getr 0 8 dX0_reportSites_13 f0_64 rfl c1 ?_
  obtain ⟨c2, h⟩ := h
  refine ok_geti 6 3 dX0_reportSites_16 f0_127 rfl c2 ?_
  refine ok_ic_ge 128 dX0_reportSites_19 (by decide) (fun z3 => ?_) (fun z3 => ?_)
  · replace h := h.1 z3
    refine ok_iload_n 1 dX0_reportSites_128 rfl rfl ?_
    exact ok_iret .int dX0_reportSites_129 rfl rfl h
  · replace h := h.2 z3
    refine ok_aload_n 0 dX0_reportSites_22 rfl rfl ?_
    refine ok_getr 0 6 dX0_reportSites_23 f0_50 rfl c1 ?_
    refine ok_aload_n 0 dX0_reportSites_26 rfl rfl ?_
    refine ok_getr 0 5 dX0_reportSites_27 f0_43 rfl c1 ?_
    obtain ⟨c4, h⟩ := h
    refine ok_getr 4 0 dX0_reportSites_30 f0_130 rfl c4 ?_
    refine ok_iload_n 2 dX0_reportSites_33 rfl rfl ?_
    obtain ⟨c5, h⟩ := h
    obtain ⟨c6, h⟩ := h
    refine ok_ald5 dX0_reportSites_34 c5 c6 ?_
    refine ok_aload_n 0 dX0_reportSites_35 rfl rfl ?_
    refine ok_getr 0 8 dX0_reportSites_36 f0_64 rfl c1 ?_
    refine ok_getr 6 2 dX0_reportSites_39 f0_153 rfl c2 ?_
    refine ok_iload_n 2 dX0_reportSites_42 rfl rfl ?_
    obtain ⟨c7, h⟩ := h
    obtain ⟨c8, h⟩ := h
    refine ok_iald dX0_reportSites_43 c7 c8 ?_
    obtain ⟨c9, h⟩ := h
    refine ok_cVv (rest := []) o_rc 2 [.ref (r (r (r v0 5) 0) v2.toNatClampNeg), .int (i (r (r v0 8) 2) v2.toNatClampNeg)] dX0_reportSites_44 k0_156 c9 rfl rfl (Nat.le_of_ble_eq_true rfl) h (fun i10 h => ?_)
    refine ok_aload_n 0 dX0_reportSites_47 rfl rfl ?_
    refine ok_getr 0 6 dX0_reportSites_48 f0_50 rfl c1 ?_
    refine ok_cVi (rest := []) o_rc 2 [] dX0_reportSites_51 k0_160 c9 rfl rfl (Nat.le_of_ble_eq_true rfl) h (fun x11 i11 h => ?_)
    refine ok_if_eq 76 dX0_reportSites_54 (by decide) (fun z12 => ?_) (fun z12 => ?_)
    · replace h := h.1 z12
      exact h
    · replace h := h.2 z12
      refine ok_aload_n 0 dX0_reportSites_57 rfl rfl ?_
      refine ok_getr 0 7 dX0_reportSites_58 f0_57 rfl c1 ?_
      refine ok_aload_n 0 dX0_reportSites_61 rfl rfl ?_
      refine ok_getr 0 8 dX0_reportSites_62 f0_64 rfl c1 ?_
      refine ok_iload_n 2 dX0_reportSites_65 rfl rfl ?_
      refine ok_aload_n 0 dX0_reportSites_66 rfl rfl ?_
      refine ok_getr 0 6 dX0_reportSites_67 f0_50 rfl c1 ?_
      obtain ⟨c13, h⟩ := h
      refine ok_cVv (rest := []) o_rc 8 [.ref (r v0 8), .int v2, .ref (r v0 6)] dX0_reportSites_70 k0_164 c13 rfl rfl (Nat.le_of_ble_eq_true rfl) h (fun i14 h => ?_)
      refine ok_eqi (v1 + 1) (fun x15 ex15 => ?_)
      replace h := h x15 ex15
      refine ok_iinc 1 x15 dX0_reportSites_73 rfl (by decide) ex15 (by decide) [some (.ref v0), some (.int x15), some (.int v2)] rfl ?_
      exact h

set_option maxRecDepth 100000 in
set_option maxHeartbeats 4000000 in
theorem sX0_reportSites_76 {G : o_G} {d : Nat} {P : o_P} {i : o_I} {r : o_R} (v0 : Nat) (v1 : Int32) (v2 : Int32)
    (h : o_O G v0 0 ∧ o_O G (r v0 5) 4 ∧ o_Y G (r (r v0 5) 1) 5 ∧ vp_in v2 (o_len G (r (r v0 5) 1)) ∧ o_O G (r v0 6) 2 ∧ SpV G d mX2_weigh [.ref (r v0 6), .ref (r (r (r v0 5) 1) v2.toNatClampNeg), .int 0] (fun i6 => SpI G d mX2_differs [.ref (r v0 6)] (fun x7 i7 => ((x7 = 0 → ∀ x9 : Int32, x9 = v2 + 1 → Ok G (d + 1) mX0_reportSites P 11 [some (.ref v0), some (.int v1), some (.int x9)] [] i7 r) ∧ (¬ x7 = 0 → o_O G (r v0 7) 8 ∧ SpV G d mX8_writeLinkSite [.ref (r v0 7), .ref (r v0 8), .int v2, .ref (r v0 6)] (fun i11 => ∀ x12 : Int32, x12 = v1 + 1 → ∀ x13 : Int32, x13 = v2 + 1 → Ok G (d + 1) mX0_reportSites P 11 [some (.ref v0), some (.int x12), some (.int x13)] [] i11 r) i7 r))) i6 r) i r) :
    Ok G (d + 1) mX0_reportSites P 76 [some (.ref v0), some (.int v1), some (.int v2)] [] i r := by
  refine ok_aload_n 0 dX0_reportSites_76 rfl rfl ?_
  obtain ⟨c1, h⟩ := h
  refine ok_getr 0 6 dX0_reportSites_77 f0_50 rfl c1 ?_
  refine ok_aload_n 0 dX0_reportSites_80 rfl rfl ?_
  refine ok_getr 0 5 dX0_reportSites_81 f0_43 rfl c1 ?_
  obtain ⟨c2, h⟩ := h
  refine ok_getr 4 1 dX0_reportSites_84 f0_139 rfl c2 ?_
  refine ok_iload_n 2 dX0_reportSites_87 rfl rfl ?_
  obtain ⟨c3, h⟩ := h
  obtain ⟨c4, h⟩ := h
  refine ok_ald5 dX0_reportSites_88 c3 c4 ?_
  refine ok_iconst 0 dX0_reportSites_89 (by decide) ?_
  obtain ⟨c5, h⟩ := h
  refine ok_cVv (rest := []) o_rc 2 [.ref (r (r (r v0 5) 1) v2.toNatClampNeg), .int 0] dX0_reportSites_90 k0_156 c5 rfl rfl (Nat.le_of_ble_eq_true rfl) h (fun i6 h => ?_)
  refine ok_aload_n 0 dX0_reportSites_93 rfl rfl ?_
  refine ok_getr 0 6 dX0_reportSites_94 f0_50 rfl c1 ?_
  refine ok_cVi (rest := []) o_rc 2 [] dX0_reportSites_97 k0_160 c5 rfl rfl (Nat.le_of_ble_eq_true rfl) h (fun x7 i7 h => ?_)
  refine ok_if_eq 122 dX0_reportSites_100 (by decide) (fun z8 => ?_) (fun z8 => ?_)
  · replace h := h.1 z8
    refine ok_eqi (v2 + 1) (fun x9 ex9 => ?_)
    replace h := h x9 ex9
    refine ok_iinc 1 x9 dX0_reportSites_122 rfl (by decide) ex9 (by decide) [some (.ref v0), some (.int v1), some (.int x9)] rfl ?_
    refine ok_goto 11 dX0_reportSites_125 (by decide) ?_
    exact h
  · replace h := h.2 z8
    refine ok_aload_n 0 dX0_reportSites_103 rfl rfl ?_
    refine ok_getr 0 7 dX0_reportSites_104 f0_57 rfl c1 ?_
    refine ok_aload_n 0 dX0_reportSites_107 rfl rfl ?_
    refine ok_getr 0 8 dX0_reportSites_108 f0_64 rfl c1 ?_
    refine ok_iload_n 2 dX0_reportSites_111 rfl rfl ?_
    refine ok_aload_n 0 dX0_reportSites_112 rfl rfl ?_
    refine ok_getr 0 6 dX0_reportSites_113 f0_50 rfl c1 ?_
    obtain ⟨c10, h⟩ := h
    refine ok_cVv (rest := []) o_rc 8 [.ref (r v0 8), .int v2, .ref (r v0 6)] dX0_reportSites_116 k0_168 c10 rfl rfl (Nat.le_of_ble_eq_true rfl) h (fun i11 h => ?_)
    refine ok_eqi (v1 + 1) (fun x12 ex12 => ?_)
    replace h := h x12 ex12
    refine ok_iinc 1 x12 dX0_reportSites_119 rfl (by decide) ex12 (by decide) [some (.ref v0), some (.int x12), some (.int v2)] rfl ?_
    refine ok_eqi (v2 + 1) (fun x13 ex13 => ?_)
    replace h := h x13 ex13
    refine ok_iinc 1 x13 dX0_reportSites_122 rfl (by decide) ex13 (by decide) [some (.ref v0), some (.int x12), some (.int x13)] rfl ?_
    refine ok_goto 11 dX0_reportSites_125 (by decide) ?_
    exact h

set_option maxRecDepth 100000 in
set_option maxHeartbeats 4000000 in
theorem sX0_seen_0 {G : o_G} {d : Nat} {P : o_P} {i : o_I} {r : o_R} (v0 : Nat) (v1 : Int32) (v2 : Int32)
    (h : ((v1 < 0 → P (some (.int 0)) i r) ∧ (¬ v1 < 0 → o_O G v0 0 ∧ o_O G (r v0 8) 6 ∧ (((i (r v0 8) 3) ≤ v1 → P (some (.int 0)) i r) ∧ (¬ (i (r v0 8) 3) ≤ v1 → ((v2 < 0 → P (some (.int 0)) i r) ∧ (¬ v2 < 0 → ((v2 < 4 → o_O G (r v0 5) 4 ∧ o_Y G (r (r v0 5) 0) 5 ∧ vp_in v1 (o_len G (r (r v0 5) 0)) ∧ o_O G (r (r (r v0 5) 0) v1.toNatClampNeg) 7 ∧ SpI G d mX7_countOf [.ref (r (r (r v0 5) 0) v1.toNatClampNeg), .int v2] (fun x11 i11 => P (some (.int x11)) i11 r) i r) ∧ (¬ v2 < 4 → P (some (.int 0)) i r))))))))) :
    Ok G (d + 1) mX0_seen P 0 [some (.ref v0), some (.int v1), some (.int v2)] [] i r := by
  refine ok_iload_n 1 dX0_seen_0 rfl rfl ?_
  refine ok_if_lt 24 dX0_seen_1 (by decide) (fun z1 => ?_) (fun z1 => ?_)
  · replace h := h.1 z1
    refine ok_iconst 0 dX0_seen_24 (by decide) ?_
    exact ok_iret .int dX0_seen_25 rfl rfl h
  · replace h := h.2 z1
    refine ok_iload_n 1 dX0_seen_4 rfl rfl ?_
    refine ok_aload_n 0 dX0_seen_5 rfl rfl ?_
    obtain ⟨c2, h⟩ := h
    refine ok_getr 0 8 dX0_seen_6 f0_64 rfl c2 ?_
    obtain ⟨c3, h⟩ := h
    refine ok_geti 6 3 dX0_seen_9 f0_127 rfl c3 ?_
    refine ok_ic_ge 24 dX0_seen_12 (by decide) (fun z4 => ?_) (fun z4 => ?_)
    · replace h := h.1 z4
      refine ok_iconst 0 dX0_seen_24 (by decide) ?_
      exact ok_iret .int dX0_seen_25 rfl rfl h
    · replace h := h.2 z4
      refine ok_iload_n 2 dX0_seen_15 rfl rfl ?_
      refine ok_if_lt 24 dX0_seen_16 (by decide) (fun z5 => ?_) (fun z5 => ?_)
      · replace h := h.1 z5
        refine ok_iconst 0 dX0_seen_24 (by decide) ?_
        exact ok_iret .int dX0_seen_25 rfl rfl h
      · replace h := h.2 z5
        refine ok_iload_n 2 dX0_seen_19 rfl rfl ?_
        refine ok_iconst 4 dX0_seen_20 (by decide) ?_
        refine ok_ic_lt 26 dX0_seen_21 (by decide) (fun z6 => ?_) (fun z6 => ?_)
        · replace h := h.1 z6
          refine ok_aload_n 0 dX0_seen_26 rfl rfl ?_
          refine ok_getr 0 5 dX0_seen_27 f0_43 rfl c2 ?_
          obtain ⟨c7, h⟩ := h
          refine ok_getr 4 0 dX0_seen_30 f0_130 rfl c7 ?_
          refine ok_iload_n 1 dX0_seen_33 rfl rfl ?_
          obtain ⟨c8, h⟩ := h
          obtain ⟨c9, h⟩ := h
          refine ok_ald5 dX0_seen_34 c8 c9 ?_
          refine ok_iload_n 2 dX0_seen_35 rfl rfl ?_
          obtain ⟨c10, h⟩ := h
          refine ok_cVi (rest := []) o_rc 7 [.int v2] dX0_seen_36 k0_134 c10 rfl rfl (Nat.le_of_ble_eq_true rfl) h (fun x11 i11 h => ?_)
          exact ok_iret .int dX0_seen_39 rfl rfl h
        · replace h := h.2 z6
          refine ok_iconst 0 dX0_seen_24 (by decide) ?_
          exact ok_iret .int dX0_seen_25 rfl rfl h

set_option maxRecDepth 100000 in
set_option maxHeartbeats 4000000 in
theorem sX0_showDraft_0 {G : o_G} {d : Nat} {P : o_P} {i : o_I} {r : o_R} (v0 : Nat)
    (h : o_O G v0 0 ∧ ∀ r2 : o_R, r2 = o_upr r v0 8 (r v0 9) → ∀ r3 : o_R, r3 = o_upr r2 v0 9 (r v0 8) → P none i r3) :
    Ok G (d + 1) mX0_showDraft P 0 [some (.ref v0), none] [] i r := by
  refine ok_aload_n 0 dX0_showDraft_0 rfl rfl ?_
  obtain ⟨c1, h⟩ := h
  refine ok_getr 0 8 dX0_showDraft_1 f0_64 rfl c1 ?_
  refine ok_astore_n 1 dX0_showDraft_4 rfl (by decide) [some (.ref v0), some (.ref (r v0 8))] rfl ?_
  refine ok_aload_n 0 dX0_showDraft_5 rfl rfl ?_
  refine ok_aload_n 0 dX0_showDraft_6 rfl rfl ?_
  refine ok_getr 0 9 dX0_showDraft_7 f0_68 rfl c1 ?_
  refine ok_putr 0 8 (.object "ReadCaller$Sample") dX0_showDraft_10 f0_64 rfl rfl (by decide +kernel) rfl rfl c1 ?_
  refine ok_nmr (fun r2 er2 => ?_)
  replace h := h r2 er2
  refine ok_aload_n 0 dX0_showDraft_13 rfl rfl ?_
  refine ok_aload_n 1 dX0_showDraft_14 rfl rfl ?_
  refine ok_putr 0 9 (.object "ReadCaller$Sample") dX0_showDraft_15 f0_68 rfl rfl (by decide +kernel) rfl rfl c1 ?_
  refine ok_nmr (fun r3 er3 => ?_)
  replace h := h r3 er3
  exact ok_vret dX0_showDraft_18 rfl h

set_option maxRecDepth 100000 in
set_option maxHeartbeats 4000000 in
theorem sX0_size_0 {G : o_G} {d : Nat} {P : o_P} {i : o_I} {r : o_R} (v0 : Nat) (v1 : Int32)
    (h : o_O G v0 0 ∧ SpQ G d mX0_textOf [.ref v0, .int v1] (fun x2 i2 => ((∀ y3 : Nat, x2 = some y3 → o_O G y3 9 ∧ P (some (.int (i2 y3 1))) i2 r) ∧ (x2 = none → P (some (.int (-1))) i2 r))) i r) :
    Ok G (d + 1) mX0_size P 0 [some (.ref v0), some (.int v1), none] [] i r := by
  refine ok_aload_n 0 dX0_size_0 rfl rfl ?_
  refine ok_iload_n 1 dX0_size_1 rfl rfl ?_
  obtain ⟨c1, h⟩ := h
  refine ok_cVq (rest := []) o_rc 0 [.int v1] dX0_size_2 k0_71 c1 rfl rfl (Nat.le_of_ble_eq_true rfl) h (fun x2 i2 h => ?_)
  cases x2 with
  | some y3 =>
    replace h := h.1 y3 rfl
    refine ok_astore_n 2 dX0_size_5 rfl (by decide) [some (.ref v0), some (.int v1), some (.ref y3)] rfl ?_
    refine ok_aload_n 2 dX0_size_6 rfl rfl ?_
    refine ok_ifnonnull 14 dX0_size_7 (by decide) ?_
    refine ok_aload_n 2 dX0_size_14 rfl rfl ?_
    obtain ⟨c4, h⟩ := h
    refine ok_geti 9 1 dX0_size_15 f0_79 rfl c4 ?_
    exact ok_iret .int dX0_size_18 rfl rfl h
  | none =>
    replace h := h.2 rfl
    refine ok_astore_nN 2 dX0_size_5 rfl (by decide) [some (.ref v0), some (.int v1), some .null] rfl ?_
    refine ok_aload_nN 2 dX0_size_6 rfl rfl ?_
    refine ok_ifnonnullN dX0_size_7 ?_
    refine ok_iconst (-1) dX0_size_10 (by decide) ?_
    refine ok_goto 18 dX0_size_11 (by decide) ?_
    exact ok_iret .int dX0_size_18 rfl rfl h

set_option maxRecDepth 100000 in
set_option maxHeartbeats 4000000 in
theorem sX0_step_0 {G : o_G} {d : Nat} {P : o_P} {i : o_I} {r : o_R} (v0 : Nat) (v1 : Int32) (v2 : Int32)
    (h : ((v1 < 0 → P (some (.int 0)) i r) ∧ (¬ v1 < 0 → o_O G v0 0 ∧ o_O G (r v0 8) 6 ∧ ((v1 < (i (r v0 8) 5) → o_Y G (r (r v0 8) 4) 4 ∧ vp_in v1 (o_len G (r (r v0 8) 4)) ∧ o_O G (r (r (r v0 8) 4) v1.toNatClampNeg) 5 ∧ SpI G d mX5_stepFromFront [.ref (r (r (r v0 8) 4) v1.toNatClampNeg), .int v2] (fun x8 i8 => P (some (.int x8)) i8 r) i r) ∧ (¬ v1 < (i (r v0 8) 5) → P (some (.int 0)) i r))))) :
    Ok G (d + 1) mX0_step P 0 [some (.ref v0), some (.int v1), some (.int v2)] [] i r := by
  refine ok_iload_n 1 dX0_step_0 rfl rfl ?_
  refine ok_if_lt 15 dX0_step_1 (by decide) (fun z1 => ?_) (fun z1 => ?_)
  · replace h := h.1 z1
    refine ok_iconst 0 dX0_step_15 (by decide) ?_
    exact ok_iret .int dX0_step_16 rfl rfl h
  · replace h := h.2 z1
    refine ok_iload_n 1 dX0_step_4 rfl rfl ?_
    refine ok_aload_n 0 dX0_step_5 rfl rfl ?_
    obtain ⟨c2, h⟩ := h
    refine ok_getr 0 8 dX0_step_6 f0_64 rfl c2 ?_
    obtain ⟨c3, h⟩ := h
    refine ok_geti 6 5 dX0_step_9 f0_96 rfl c3 ?_
    refine ok_ic_lt 17 dX0_step_12 (by decide) (fun z4 => ?_) (fun z4 => ?_)
    · replace h := h.1 z4
      refine ok_aload_n 0 dX0_step_17 rfl rfl ?_
      refine ok_getr 0 8 dX0_step_18 f0_64 rfl c2 ?_
      refine ok_getr 6 4 dX0_step_21 f0_99 rfl c3 ?_
      refine ok_iload_n 1 dX0_step_24 rfl rfl ?_
      obtain ⟨c5, h⟩ := h
      obtain ⟨c6, h⟩ := h
      refine ok_ald4 dX0_step_25 c5 c6 ?_
      refine ok_iload_n 2 dX0_step_26 rfl rfl ?_
      obtain ⟨c7, h⟩ := h
      refine ok_cVi (rest := []) o_rc 5 [.int v2] dX0_step_27 k0_124 c7 rfl rfl (Nat.le_of_ble_eq_true rfl) h (fun x8 i8 h => ?_)
      exact ok_iret .int dX0_step_30 rfl rfl h
    · replace h := h.2 z4
      refine ok_iconst 0 dX0_step_15 (by decide) ?_
      exact ok_iret .int dX0_step_16 rfl rfl h

set_option maxRecDepth 100000 in
set_option maxHeartbeats 4000000 in
theorem sX0_textOf_0 {G : o_G} {d : Nat} {P : o_P} {i : o_I} {r : o_R} (v0 : Nat) (v1 : Int32)
    (h : ((¬ v1 = 0 → ((¬ v1 = 1 → P (some (va_rf none)) i r) ∧ (v1 = 1 → o_O G v0 0 ∧ P (some (va_rf (some (r v0 1)))) i r))) ∧ (v1 = 0 → o_O G v0 0 ∧ P (some (va_rf (some (r v0 0)))) i r))) :
    Ok G (d + 1) mX0_textOf P 0 [some (.ref v0), some (.int v1)] [] i r := by
  refine ok_iload_n 1 dX0_textOf_0 rfl rfl ?_
  refine ok_if_ne 9 dX0_textOf_1 (by decide) (fun z1 => ?_) (fun z1 => ?_)
  · replace h := h.1 z1
    refine ok_iload_n 1 dX0_textOf_9 rfl rfl ?_
    refine ok_iconst 1 dX0_textOf_10 (by decide) ?_
    refine ok_ic_ne 21 dX0_textOf_11 (by decide) (fun z4 => ?_) (fun z4 => ?_)
    · replace h := h.1 z4
      refine ok_null dX0_textOf_21 ?_
      exact ok_aret (v := none) "ReadCaller$Text" dX0_textOf_22 rfl h
    · replace h := h.2 z4
      refine ok_aload_n 0 dX0_textOf_14 rfl rfl ?_
      obtain ⟨c5, h⟩ := h
      refine ok_getr 0 1 dX0_textOf_15 f0_18 rfl c5 ?_
      refine ok_goto 22 dX0_textOf_18 (by decide) ?_
      exact ok_aret (v := (some (r v0 1))) "ReadCaller$Text" dX0_textOf_22 rfl h
  · replace h := h.2 z1
    refine ok_aload_n 0 dX0_textOf_4 rfl rfl ?_
    obtain ⟨c6, h⟩ := h
    refine ok_getr 0 0 dX0_textOf_5 f0_14 rfl c6 ?_
    exact ok_aret (v := (some (r v0 0))) "ReadCaller$Text" dX0_textOf_8 rfl h

set_option maxRecDepth 100000 in
set_option maxHeartbeats 4000000 in
theorem sX1_change_0 {G : o_G} {d : Nat} {P : o_P} {i : o_I} {r : o_R} (v0 : Nat) (v1 : Nat) (v2 : Int32) (v3 : Int32) (v4 : Int32)
    (h : o_O G v0 5 ∧ o_Y G (r v0 0) 1 ∧ vp_in (v3 - 1) (o_len G (r v0 0)) ∧ o_O G v1 6 ∧ o_Y G (r v1 2) 1 ∧ vp_in ((v2 + v4) - 1) (o_len G (r v1 2)) ∧ (∀ x8 : Int32, x8 = (if (i (r v0 0) (v3 - 1).toNatClampNeg) = (i (r v1 2) ((v2 + v4) - 1).toNatClampNeg) then 0 else 1) → P (some (.int x8)) i r)) :
    Ok G (d + 1) mX1_change P 0 [some (.ref v0), some (.ref v1), some (.int v2), some (.int v3), some (.int v4)] [] i r := by
  refine ok_aload_n 0 dX1_change_0 rfl rfl ?_
  obtain ⟨c1, h⟩ := h
  refine ok_getr 5 0 dX1_change_1 f1_103 rfl c1 ?_
  refine ok_iload_n 3 dX1_change_4 rfl rfl ?_
  refine ok_iconst 1 dX1_change_5 (by decide) ?_
  refine ok_isub dX1_change_6 ?_
  obtain ⟨c2, h⟩ := h
  obtain ⟨c3, h⟩ := h
  refine ok_iald dX1_change_7 c2 c3 ?_
  refine ok_aload_n 1 dX1_change_8 rfl rfl ?_
  obtain ⟨c4, h⟩ := h
  refine ok_getr 6 2 dX1_change_9 f1_107 rfl c4 ?_
  refine ok_iload_n 2 dX1_change_12 rfl rfl ?_
  refine ok_iload dX1_change_13 rfl ?_
  refine ok_iadd dX1_change_15 ?_
  refine ok_iconst 1 dX1_change_16 (by decide) ?_
  refine ok_isub dX1_change_17 ?_
  obtain ⟨c5, h⟩ := h
  obtain ⟨c6, h⟩ := h
  refine ok_iald dX1_change_18 c5 c6 ?_
  have k9 : ∀ x8 : Int32, x8 = (if (i (r v0 0) (v3 - 1).toNatClampNeg) = (i (r v1 2) ((v2 + v4) - 1).toNatClampNeg) then 0 else 1) → Ok G (d + 1) mX1_change P 27 [none, none, none, none, none] [.int x8] i r := by
    intro x8 ex8
    replace h := h x8 ex8
    exact ok_iret .int dX1_change_27 rfl rfl h
  clear h
  refine ok_ic_ne 26 dX1_change_19 (by decide) (fun z7 => ?_) (fun z7 => ?_)
  · refine ok_iconst 1 dX1_change_26 (by decide) ?_
    refine ok_wk [none, none, none, none, none] trivial ?_
    exact k9 (1) (by simp only [if_neg z7])
  · refine ok_iconst 0 dX1_change_22 (by decide) ?_
    refine ok_goto 27 dX1_change_23 (by decide) ?_
    refine ok_wk [none, none, none, none, none] trivial ?_
    exact k9 (0) (by simp only [if_pos z7])

set_option maxRecDepth 100000 in
set_option maxHeartbeats 4000000 in
theorem sX1_consider_0 {G : o_G} {d : Nat} {P : o_P} {i : o_I} {r : o_R} (v0 : Nat) (v1 : Int32) (v2 : Int32) (v3 : Int32) (v4 : Int32)
    (h : o_O G v0 1 ∧ ((v3 ≤ (i v0 1) → (∀ x5 : Int32, x5 = (if (i v0 2) = 0 then 1 else (if (i v0 1) ≤ v3 then 0 else 1)) → ∀ i6 : o_I, i6 = o_up i v0 2 1 → ∀ i7 : o_I, i7 = o_up i6 v0 1 v3 → (∀ x9 : Int32, x9 = (if x5 = 0 then (if v2 < (i7 v0 6) then v2 else (i7 v0 6)) else v2) → ∀ i10 : o_I, i10 = o_up i7 v0 6 x9 → (∀ x12 : Int32, x12 = (if x5 = 0 then (if (i10 v0 7) < v1 then v1 else (i10 v0 7)) else v1) → ∀ i13 : o_I, i13 = o_up i10 v0 7 x12 → ((¬ x5 = 0 → Ok G (d + 1) mX1_consider P 112 [some (.ref v0), some (.int v1), some (.int v2), none, some (.int v4), none] [] i13 r) ∧ (x5 = 0 → ((v1 < (i13 v0 3) → Ok G (d + 1) mX1_consider P 112 [some (.ref v0), some (.int v1), some (.int v2), none, some (.int v4), none] [] i13 r) ∧ (¬ v1 < (i13 v0 3) → ((¬ v1 = (i13 v0 3) → P none i13 r) ∧ (v1 = (i13 v0 3) → (((i13 v0 4) ≤ v2 → P none i13 r) ∧ (¬ (i13 v0 4) ≤ v2 → Ok G (d + 1) mX1_consider P 112 [some (.ref v0), some (.int v1), some (.int v2), none, some (.int v4), none] [] i13 r)))))))))))) ∧ (¬ v3 ≤ (i v0 1) → P none i r))) :
    Ok G (d + 1) mX1_consider P 0 [some (.ref v0), some (.int v1), some (.int v2), some (.int v3), some (.int v4), none] [] i r := by
  refine ok_iload_n 3 dX1_consider_0 rfl rfl ?_
  refine ok_aload_n 0 dX1_consider_1 rfl rfl ?_
  obtain ⟨c1, h⟩ := h
  refine ok_geti 1 1 dX1_consider_2 f1_16 rfl c1 ?_
  refine ok_ic_le 9 dX1_consider_5 (by decide) (fun z2 => ?_) (fun z2 => ?_)
  · replace h := h.1 z2
    refine ok_aload_n 0 dX1_consider_9 rfl rfl ?_
    refine ok_geti 1 2 dX1_consider_10 f1_20 rfl c1 ?_
    have k20 : ∀ x5 : Int32, x5 = (if (i v0 2) = 0 then 1 else (if (i v0 1) ≤ v3 then 0 else 1)) → Ok G (d + 1) mX1_consider P 29 [some (.ref v0), some (.int v1), some (.int v2), some (.int v3), some (.int v4), none] [.int x5] i r := by
      intro x5 ex5
      replace h := h x5 ex5
      refine ok_istore dX1_consider_29 (by decide) [some (.ref v0), some (.int v1), some (.int v2), some (.int v3), some (.int v4), some (.int x5)] rfl ?_
      refine ok_aload_n 0 dX1_consider_31 rfl rfl ?_
      refine ok_iconst 1 dX1_consider_32 (by decide) ?_
      refine ok_puti 1 2 .boolean dX1_consider_33 f1_20 rfl rfl (by decide +kernel) rfl rfl c1 ?_
      refine ok_nmi (fun i6 ei6 => ?_)
      replace h := h i6 ei6
      refine ok_aload_n 0 dX1_consider_36 rfl rfl ?_
      refine ok_iload_n 3 dX1_consider_37 rfl rfl ?_
      refine ok_puti 1 1 .int dX1_consider_38 f1_16 rfl rfl (by decide +kernel) rfl rfl c1 ?_
      refine ok_nmi (fun i7 ei7 => ?_)
      replace h := h i7 ei7
      refine ok_aload_n 0 dX1_consider_41 rfl rfl ?_
      refine ok_iload dX1_consider_42 rfl ?_
      have k19 : ∀ x9 : Int32, x9 = (if x5 = 0 then (if v2 < (i7 v0 6) then v2 else (i7 v0 6)) else v2) → Ok G (d + 1) mX1_consider P 59 [some (.ref v0), some (.int v1), some (.int v2), none, some (.int v4), some (.int x5)] [.int x9, .ref v0] i7 r := by
        intro x9 ex9
        replace h := h x9 ex9
        refine ok_puti 1 6 .int dX1_consider_59 f1_33 rfl rfl (by decide +kernel) rfl rfl c1 ?_
        refine ok_nmi (fun i10 ei10 => ?_)
        replace h := h i10 ei10
        refine ok_aload_n 0 dX1_consider_62 rfl rfl ?_
        refine ok_iload dX1_consider_63 rfl ?_
        have k18 : ∀ x12 : Int32, x12 = (if x5 = 0 then (if (i10 v0 7) < v1 then v1 else (i10 v0 7)) else v1) → Ok G (d + 1) mX1_consider P 80 [some (.ref v0), some (.int v1), some (.int v2), none, some (.int v4), some (.int x5)] [.int x12, .ref v0] i10 r := by
          intro x12 ex12
          replace h := h x12 ex12
          refine ok_puti 1 7 .int dX1_consider_80 f1_36 rfl rfl (by decide +kernel) rfl rfl c1 ?_
          refine ok_nmi (fun i13 ei13 => ?_)
          replace h := h i13 ei13
          refine ok_iload dX1_consider_83 rfl ?_
          refine ok_if_ne 112 dX1_consider_85 (by decide) (fun z14 => ?_) (fun z14 => ?_)
          · replace h := h.1 z14
            refine ok_wk [some (.ref v0), some (.int v1), some (.int v2), none, some (.int v4), none] ⟨rfl, rfl, rfl, rfl, trivial⟩ ?_
            exact h
          · replace h := h.2 z14
            refine ok_iload_n 1 dX1_consider_88 rfl rfl ?_
            refine ok_aload_n 0 dX1_consider_89 rfl rfl ?_
            refine ok_geti 1 3 dX1_consider_90 f1_24 rfl c1 ?_
            refine ok_ic_lt 112 dX1_consider_93 (by decide) (fun z15 => ?_) (fun z15 => ?_)
            · replace h := h.1 z15
              refine ok_wk [some (.ref v0), some (.int v1), some (.int v2), none, some (.int v4), none] ⟨rfl, rfl, rfl, rfl, trivial⟩ ?_
              exact h
            · replace h := h.2 z15
              refine ok_iload_n 1 dX1_consider_96 rfl rfl ?_
              refine ok_aload_n 0 dX1_consider_97 rfl rfl ?_
              refine ok_geti 1 3 dX1_consider_98 f1_24 rfl c1 ?_
              refine ok_ic_ne 128 dX1_consider_101 (by decide) (fun z16 => ?_) (fun z16 => ?_)
              · replace h := h.1 z16
                exact ok_vret dX1_consider_128 rfl h
              · replace h := h.2 z16
                refine ok_iload_n 2 dX1_consider_104 rfl rfl ?_
                refine ok_aload_n 0 dX1_consider_105 rfl rfl ?_
                refine ok_geti 1 4 dX1_consider_106 f1_27 rfl c1 ?_
                refine ok_ic_ge 128 dX1_consider_109 (by decide) (fun z17 => ?_) (fun z17 => ?_)
                · replace h := h.1 z17
                  exact ok_vret dX1_consider_128 rfl h
                · replace h := h.2 z17
                  refine ok_wk [some (.ref v0), some (.int v1), some (.int v2), none, some (.int v4), none] ⟨rfl, rfl, rfl, rfl, trivial⟩ ?_
                  exact h
        clear h
        refine ok_if_eq 72 dX1_consider_65 (by decide) (fun z11 => ?_) (fun z11 => ?_)
        · refine ok_aload_n 0 dX1_consider_72 rfl rfl ?_
          refine ok_geti 1 7 dX1_consider_73 f1_36 rfl c1 ?_
          refine ok_iload_n 1 dX1_consider_76 rfl rfl ?_
          refine ok_max o_rc dX1_consider_77 l1_79 w_max_2 w_math w_max_4 (Nat.le_of_ble_eq_true rfl) ?_
          exact k18 ((if (i10 v0 7) < v1 then v1 else (i10 v0 7))) (by simp only [if_pos z11])
        · refine ok_iload_n 1 dX1_consider_68 rfl rfl ?_
          refine ok_goto 80 dX1_consider_69 (by decide) ?_
          exact k18 (v1) (by simp only [if_neg z11])
      clear h
      refine ok_if_eq 51 dX1_consider_44 (by decide) (fun z8 => ?_) (fun z8 => ?_)
      · refine ok_aload_n 0 dX1_consider_51 rfl rfl ?_
        refine ok_geti 1 6 dX1_consider_52 f1_33 rfl c1 ?_
        refine ok_iload_n 2 dX1_consider_55 rfl rfl ?_
        refine ok_min o_rc dX1_consider_56 l1_85 w_min_2 w_math w_min_4 (Nat.le_of_ble_eq_true rfl) ?_
        refine ok_wk [some (.ref v0), some (.int v1), some (.int v2), none, some (.int v4), some (.int x5)] ⟨rfl, rfl, rfl, rfl, rfl, trivial⟩ ?_
        exact k19 ((if v2 < (i7 v0 6) then v2 else (i7 v0 6))) (by simp only [if_pos z8])
      · refine ok_iload_n 2 dX1_consider_47 rfl rfl ?_
        refine ok_goto 59 dX1_consider_48 (by decide) ?_
        refine ok_wk [some (.ref v0), some (.int v1), some (.int v2), none, some (.int v4), some (.int x5)] ⟨rfl, rfl, rfl, rfl, rfl, trivial⟩ ?_
        exact k19 (v2) (by simp only [if_neg z8])
    clear h
    refine ok_if_eq 24 dX1_consider_13 (by decide) (fun z3 => ?_) (fun z3 => ?_)
    · refine ok_iconst 1 dX1_consider_24 (by decide) ?_
      refine ok_goto 29 dX1_consider_25 (by decide) ?_
      exact k20 (1) (by simp only [if_pos z3])
    · refine ok_iload_n 3 dX1_consider_16 rfl rfl ?_
      refine ok_aload_n 0 dX1_consider_17 rfl rfl ?_
      refine ok_geti 1 1 dX1_consider_18 f1_16 rfl c1 ?_
      refine ok_ic_ge 28 dX1_consider_21 (by decide) (fun z4 => ?_) (fun z4 => ?_)
      · refine ok_iconst 0 dX1_consider_28 (by decide) ?_
        exact k20 (0) (by simp only [if_neg z3, if_pos z4])
      · refine ok_iconst 1 dX1_consider_24 (by decide) ?_
        refine ok_goto 29 dX1_consider_25 (by decide) ?_
        exact k20 (1) (by simp only [if_neg z3, if_neg z4])
  · replace h := h.2 z2
    exact ok_vret dX1_consider_8 rfl h

set_option maxRecDepth 100000 in
set_option maxHeartbeats 4000000 in
theorem sX1_consider_112 {G : o_G} {d : Nat} {P : o_P} {i : o_I} {r : o_R} (v0 : Nat) (v1 : Int32) (v2 : Int32) (v4 : Int32)
    (h : o_O G v0 1 ∧ ∀ i2 : o_I, i2 = o_up i v0 3 v1 → ∀ i3 : o_I, i3 = o_up i2 v0 4 v2 → (v4 = 0 ∨ v4 = 1) ∧ ∀ i4 : o_I, i4 = o_up i3 v0 5 v4 → P none i4 r) :
    Ok G (d + 1) mX1_consider P 112 [some (.ref v0), some (.int v1), some (.int v2), none, some (.int v4), none] [] i r := by
  refine ok_aload_n 0 dX1_consider_112 rfl rfl ?_
  refine ok_iload_n 1 dX1_consider_113 rfl rfl ?_
  obtain ⟨c1, h⟩ := h
  refine ok_puti 1 3 .int dX1_consider_114 f1_24 rfl rfl (by decide +kernel) rfl rfl c1 ?_
  refine ok_nmi (fun i2 ei2 => ?_)
  replace h := h i2 ei2
  refine ok_aload_n 0 dX1_consider_117 rfl rfl ?_
  refine ok_iload_n 2 dX1_consider_118 rfl rfl ?_
  refine ok_puti 1 4 .int dX1_consider_119 f1_27 rfl rfl (by decide +kernel) rfl rfl c1 ?_
  refine ok_nmi (fun i3 ei3 => ?_)
  replace h := h i3 ei3
  refine ok_aload_n 0 dX1_consider_122 rfl rfl ?_
  refine ok_iload dX1_consider_123 rfl ?_
  obtain ⟨c5, h⟩ := h
  refine ok_puti 1 5 .boolean dX1_consider_125 f1_30 rfl rfl (by decide +kernel) (o_bool c5).1 (o_bool c5).2 c1 ?_
  refine ok_nmi (fun i4 ei4 => ?_)
  replace h := h i4 ei4
  exact ok_vret dX1_consider_128 rfl h

set_option maxRecDepth 100000 in
set_option maxHeartbeats 4000000 in
theorem sX1_distanceAt_0 {G : o_G} {d : Nat} {P : o_P} {i : o_I} {r : o_R} (v0 : Nat) (v1 : Nat) (v2 : Nat) (v3 : Int32) (v4 : Int32) (v5 : Int32)
    (h : ((v4 = 0 → P (some (.int (v4 + v5))) i r) ∧ (¬ v4 = 0 → ((¬ v5 = 0 → o_O G v0 1 ∧ o_Y G (r v0 0) 3 ∧ vp_in (v4 - 1) (o_len G (r v0 0)) ∧ o_Y G (r (r v0 0) (v4 - 1).toNatClampNeg) 1 ∧ vp_in (v5 - 1) (o_len G (r (r v0 0) (v4 - 1).toNatClampNeg)) ∧ SpI G d mX1_change [.ref v1, .ref v2, .int v3, .int v4, .int v5] (fun x8 i8 => ∀ x9 : Int32, x9 = ((i (r (r v0 0) (v4 - 1).toNatClampNeg) (v5 - 1).toNatClampNeg) + x8) → vp_in v5 (o_len G (r (r v0 0) (v4 - 1).toNatClampNeg)) ∧ vp_in v4 (o_len G (r v0 0)) ∧ o_Y G (r (r v0 0) v4.toNatClampNeg) 1 ∧ vp_in (v5 - 1) (o_len G (r (r v0 0) v4.toNatClampNeg)) ∧ P (some (.int (if ((if (i8 (r (r v0 0) v4.toNatClampNeg) (v5 - 1).toNatClampNeg) < (i8 (r (r v0 0) (v4 - 1).toNatClampNeg) v5.toNatClampNeg) then (i8 (r (r v0 0) v4.toNatClampNeg) (v5 - 1).toNatClampNeg) else (i8 (r (r v0 0) (v4 - 1).toNatClampNeg) v5.toNatClampNeg)) + 1) < x9 then ((if (i8 (r (r v0 0) v4.toNatClampNeg) (v5 - 1).toNatClampNeg) < (i8 (r (r v0 0) (v4 - 1).toNatClampNeg) v5.toNatClampNeg) then (i8 (r (r v0 0) v4.toNatClampNeg) (v5 - 1).toNatClampNeg) else (i8 (r (r v0 0) (v4 - 1).toNatClampNeg) v5.toNatClampNeg)) + 1) else x9))) i8 r) i r) ∧ (v5 = 0 → P (some (.int (v4 + v5))) i r))))) :
    Ok G (d + 1) mX1_distanceAt P 0 [some (.ref v0), some (.ref v1), some (.ref v2), some (.int v3), some (.int v4), some (.int v5), none] [] i r := by
  refine ok_iload dX1_distanceAt_0 rfl ?_
  refine ok_if_eq 10 dX1_distanceAt_2 (by decide) (fun z1 => ?_) (fun z1 => ?_)
  · replace h := h.1 z1
    refine ok_iload dX1_distanceAt_10 rfl ?_
    refine ok_iload dX1_distanceAt_12 rfl ?_
    refine ok_iadd dX1_distanceAt_14 ?_
    exact ok_iret .int dX1_distanceAt_15 rfl rfl h
  · replace h := h.2 z1
    refine ok_iload dX1_distanceAt_5 rfl ?_
    refine ok_if_ne 16 dX1_distanceAt_7 (by decide) (fun z2 => ?_) (fun z2 => ?_)
    · replace h := h.1 z2
      refine ok_aload_n 0 dX1_distanceAt_16 rfl rfl ?_
      obtain ⟨c3, h⟩ := h
      refine ok_getr 1 0 dX1_distanceAt_17 f1_11 rfl c3 ?_
      refine ok_iload dX1_distanceAt_20 rfl ?_
      refine ok_iconst 1 dX1_distanceAt_22 (by decide) ?_
      refine ok_isub dX1_distanceAt_23 ?_
      obtain ⟨c4, h⟩ := h
      obtain ⟨c5, h⟩ := h
      refine ok_ald3 dX1_distanceAt_24 c4 c5 ?_
      refine ok_iload dX1_distanceAt_25 rfl ?_
      refine ok_iconst 1 dX1_distanceAt_27 (by decide) ?_
      refine ok_isub dX1_distanceAt_28 ?_
      obtain ⟨c6, h⟩ := h
      obtain ⟨c7, h⟩ := h
      refine ok_iald dX1_distanceAt_29 c6 c7 ?_
      refine ok_aload_n 1 dX1_distanceAt_30 rfl rfl ?_
      refine ok_aload_n 2 dX1_distanceAt_31 rfl rfl ?_
      refine ok_iload_n 3 dX1_distanceAt_32 rfl rfl ?_
      refine ok_iload dX1_distanceAt_33 rfl ?_
      refine ok_iload dX1_distanceAt_35 rfl ?_
      refine ok_cSi (rest := [.int (i (r (r v0 0) (v4 - 1).toNatClampNeg) (v5 - 1).toNatClampNeg)]) o_rc [.ref v1, .ref v2, .int v3, .int v4, .int v5] dX1_distanceAt_37 k1_100 rfl rfl (Nat.le_of_ble_eq_true rfl) h (fun x8 i8 h => ?_)
      refine ok_iadd dX1_distanceAt_40 ?_
      refine ok_topi (fun x9 ex9 => ?_)
      replace h := h x9 ex9
      refine ok_istore dX1_distanceAt_41 (by decide) [some (.ref v0), some (.ref v1), some (.ref v2), some (.int v3), some (.int v4), some (.int v5), some (.int x9)] rfl ?_
      refine ok_iload dX1_distanceAt_43 rfl ?_
      refine ok_aload_n 0 dX1_distanceAt_45 rfl rfl ?_
      refine ok_getr 1 0 dX1_distanceAt_46 f1_11 rfl c3 ?_
      refine ok_iload dX1_distanceAt_49 rfl ?_
      refine ok_iconst 1 dX1_distanceAt_51 (by decide) ?_
      refine ok_isub dX1_distanceAt_52 ?_
      refine ok_ald3 dX1_distanceAt_53 c4 c5 ?_
      refine ok_iload dX1_distanceAt_54 rfl ?_
      obtain ⟨c10, h⟩ := h
      refine ok_iald dX1_distanceAt_56 c6 c10 ?_
      refine ok_aload_n 0 dX1_distanceAt_57 rfl rfl ?_
      refine ok_getr 1 0 dX1_distanceAt_58 f1_11 rfl c3 ?_
      refine ok_iload dX1_distanceAt_61 rfl ?_
      obtain ⟨c11, h⟩ := h
      refine ok_ald3 dX1_distanceAt_63 c4 c11 ?_
      refine ok_iload dX1_distanceAt_64 rfl ?_
      refine ok_iconst 1 dX1_distanceAt_66 (by decide) ?_
      refine ok_isub dX1_distanceAt_67 ?_
      obtain ⟨c12, h⟩ := h
      obtain ⟨c13, h⟩ := h
      refine ok_iald dX1_distanceAt_68 c12 c13 ?_
      refine ok_min o_rc dX1_distanceAt_69 l1_85 w_min_2 w_math w_min_4 (Nat.le_of_ble_eq_true rfl) ?_
      refine ok_iconst 1 dX1_distanceAt_72 (by decide) ?_
      refine ok_iadd dX1_distanceAt_73 ?_
      refine ok_min o_rc dX1_distanceAt_74 l1_85 w_min_2 w_math w_min_4 (Nat.le_of_ble_eq_true rfl) ?_
      exact ok_iret .int dX1_distanceAt_77 rfl rfl h
    · replace h := h.2 z2
      refine ok_iload dX1_distanceAt_10 rfl ?_
      refine ok_iload dX1_distanceAt_12 rfl ?_
      refine ok_iadd dX1_distanceAt_14 ?_
      exact ok_iret .int dX1_distanceAt_15 rfl rfl h

set_option maxRecDepth 100000 in
set_option maxHeartbeats 4000000 in
theorem sX1_fill_0 {G : o_G} {d : Nat} {P : o_P} {i : o_I} {r : o_R} (v0 : Nat) (v1 : Nat) (v2 : Nat) (v3 : Int32)
    (h : Ok G (d + 1) mX1_fill P 3 [some (.ref v0), some (.ref v1), some (.ref v2), some (.int v3), some (.int 0)] [] i r) :
    Ok G (d + 1) mX1_fill P 0 [some (.ref v0), some (.ref v1), some (.ref v2), some (.int v3), none] [] i r := by
  refine ok_iconst 0 dX1_fill_0 (by decide) ?_
  refine ok_istore dX1_fill_1 (by decide) [some (.ref v0), some (.ref v1), some (.ref v2), some (.int v3), some (.int 0)] rfl ?_
  exact h

set_option maxRecDepth 100000 in
set_option maxHeartbeats 4000000 in
theorem sX1_fill_3 {G : o_G} {d : Nat} {P : o_P} {i : o_I} {r : o_R} (v0 : Nat) (v1 : Nat) (v2 : Nat) (v3 : Int32) (v4 : Int32)
    (h : o_O G v1 5 ∧ (((i v1 2) < v4 → P (some (.int 1)) i r) ∧ (¬ (i v1 2) < v4 → o_O G v0 1 ∧ SpI G d mX1_fillRow [.ref v0, .ref v1, .ref v2, .int v3, .int v4] (fun x4 i4 => ((x4 ≤ (i4 v0 1) → ∀ x6 : Int32, x6 = v4 + 1 → Ok G (d + 1) mX1_fill P 3 [some (.ref v0), some (.ref v1), some (.ref v2), some (.int v3), some (.int x6)] [] i4 r) ∧ (¬ x4 ≤ (i4 v0 1) → P (some (.int 0)) i4 r))) i r))) :
    Ok G (d + 1) mX1_fill P 3 [some (.ref v0), some (.ref v1), some (.ref v2), some (.int v3), some (.int v4)] [] i r := by
  refine ok_iload dX1_fill_3 rfl ?_
  refine ok_aload_n 1 dX1_fill_5 rfl rfl ?_
  obtain ⟨c1, h⟩ := h
  refine ok_geti 5 2 dX1_fill_6 f1_76 rfl c1 ?_
  refine ok_ic_gt 36 dX1_fill_9 (by decide) (fun z2 => ?_) (fun z2 => ?_)
  · replace h := h.1 z2
    refine ok_iconst 1 dX1_fill_36 (by decide) ?_
    exact ok_iret .boolean dX1_fill_37 rfl rfl h
  · replace h := h.2 z2
    refine ok_aload_n 0 dX1_fill_12 rfl rfl ?_
    refine ok_aload_n 1 dX1_fill_13 rfl rfl ?_
    refine ok_aload_n 2 dX1_fill_14 rfl rfl ?_
    refine ok_iload_n 3 dX1_fill_15 rfl rfl ?_
    refine ok_iload dX1_fill_16 rfl ?_
    obtain ⟨c3, h⟩ := h
    refine ok_cVi (rest := []) o_rc 1 [.ref v1, .ref v2, .int v3, .int v4] dX1_fill_18 k1_92 c3 rfl rfl (Nat.le_of_ble_eq_true rfl) h (fun x4 i4 h => ?_)
    refine ok_aload_n 0 dX1_fill_21 rfl rfl ?_
    refine ok_geti 1 1 dX1_fill_22 f1_16 rfl c3 ?_
    refine ok_ic_le 30 dX1_fill_25 (by decide) (fun z5 => ?_) (fun z5 => ?_)
    · replace h := h.1 z5
      refine ok_eqi (v4 + 1) (fun x6 ex6 => ?_)
      replace h := h x6 ex6
      refine ok_iinc 1 x6 dX1_fill_30 rfl (by decide) ex6 (by decide) [some (.ref v0), some (.ref v1), some (.ref v2), some (.int v3), some (.int x6)] rfl ?_
      refine ok_goto 3 dX1_fill_33 (by decide) ?_
      exact h
    · replace h := h.2 z5
      refine ok_iconst 0 dX1_fill_28 (by decide) ?_
      exact ok_iret .boolean dX1_fill_29 rfl rfl h

set_option maxRecDepth 100000 in
set_option maxHeartbeats 4000000 in
theorem sX1_fillRow_0 {G : o_G} {d : Nat} {P : o_P} {i : o_I} {r : o_R} (v0 : Nat) (v1 : Nat) (v2 : Nat) (v3 : Int32) (v4 : Int32)
    (h : o_O G v2 6 ∧ o_O G v1 5 ∧ o_O G v0 1 ∧ ∀ x4 : Int32, x4 = (if ((i v1 2) + (i v0 1)) < ((i v2 3) - v3) then ((i v1 2) + (i v0 1)) else ((i v2 3) - v3)) → ∀ x5 : Int32, x5 = (if 0 < (v4 - (i v0 1)) then (v4 - (i v0 1)) else 0) → ∀ x6 : Int32, x6 = (if (v4 + (i v0 1)) < x4 then (v4 + (i v0 1)) else x4) → ((x5 ≤ 0 → Ok G (d + 1) mX1_fillRow P 76 [some (.ref v0), some (.ref v1), some (.ref v2), some (.int v3), some (.int v4), some (.int x4), none, some (.int x6), some (.int 1000), some (.int x5)] [] i r) ∧ (¬ x5 ≤ 0 → o_Y G (r v0 0) 3 ∧ vp_in v4 (o_len G (r v0 0)) ∧ o_Y G (r (r v0 0) v4.toNatClampNeg) 1 ∧ vp_in (x5 - 1) (o_len G (r (r v0 0) v4.toNatClampNeg)) ∧ ∀ i12 : o_I, i12 = o_up i (r (r v0 0) v4.toNatClampNeg) (x5 - 1).toNatClampNeg 1000 → Ok G (d + 1) mX1_fillRow P 76 [some (.ref v0), some (.ref v1), some (.ref v2), some (.int v3), some (.int v4), some (.int x4), none, some (.int x6), some (.int 1000), some (.int x5)] [] i12 r))) :
    Ok G (d + 1) mX1_fillRow P 0 [some (.ref v0), some (.ref v1), some (.ref v2), some (.int v3), some (.int v4), none, none, none, none, none] [] i r := by
  refine ok_aload_n 2 dX1_fillRow_0 rfl rfl ?_
  obtain ⟨c1, h⟩ := h
  refine ok_geti 6 3 dX1_fillRow_1 f1_67 rfl c1 ?_
  refine ok_iload_n 3 dX1_fillRow_4 rfl rfl ?_
  refine ok_isub dX1_fillRow_5 ?_
  refine ok_aload_n 1 dX1_fillRow_6 rfl rfl ?_
  obtain ⟨c2, h⟩ := h
  refine ok_geti 5 2 dX1_fillRow_7 f1_76 rfl c2 ?_
  refine ok_aload_n 0 dX1_fillRow_10 rfl rfl ?_
  obtain ⟨c3, h⟩ := h
  refine ok_geti 1 1 dX1_fillRow_11 f1_16 rfl c3 ?_
  refine ok_iadd dX1_fillRow_14 ?_
  refine ok_min o_rc dX1_fillRow_15 l1_85 w_min_2 w_math w_min_4 (Nat.le_of_ble_eq_true rfl) ?_
  refine ok_topi (fun x4 ex4 => ?_)
  replace h := h x4 ex4
  refine ok_istore dX1_fillRow_18 (by decide) [some (.ref v0), some (.ref v1), some (.ref v2), some (.int v3), some (.int v4), some (.int x4), none, none, none, none] rfl ?_
  refine ok_iconst 0 dX1_fillRow_20 (by decide) ?_
  refine ok_iload dX1_fillRow_21 rfl ?_
  refine ok_aload_n 0 dX1_fillRow_23 rfl rfl ?_
  refine ok_geti 1 1 dX1_fillRow_24 f1_16 rfl c3 ?_
  refine ok_isub dX1_fillRow_27 ?_
  refine ok_max o_rc dX1_fillRow_28 l1_79 w_max_2 w_math w_max_4 (Nat.le_of_ble_eq_true rfl) ?_
  refine ok_topi (fun x5 ex5 => ?_)
  replace h := h x5 ex5
  refine ok_istore dX1_fillRow_31 (by decide) [some (.ref v0), some (.ref v1), some (.ref v2), some (.int v3), some (.int v4), some (.int x4), some (.int x5), none, none, none] rfl ?_
  refine ok_iload dX1_fillRow_33 rfl ?_
  refine ok_iload dX1_fillRow_35 rfl ?_
  refine ok_aload_n 0 dX1_fillRow_37 rfl rfl ?_
  refine ok_geti 1 1 dX1_fillRow_38 f1_16 rfl c3 ?_
  refine ok_iadd dX1_fillRow_41 ?_
  refine ok_min o_rc dX1_fillRow_42 l1_85 w_min_2 w_math w_min_4 (Nat.le_of_ble_eq_true rfl) ?_
  refine ok_topi (fun x6 ex6 => ?_)
  replace h := h x6 ex6
  refine ok_istore dX1_fillRow_45 (by decide) [some (.ref v0), some (.ref v1), some (.ref v2), some (.int v3), some (.int v4), some (.int x4), some (.int x5), some (.int x6), none, none] rfl ?_
  refine ok_sipush 1000 dX1_fillRow_47 (by decide) ?_
  refine ok_istore dX1_fillRow_50 (by decide) [some (.ref v0), some (.ref v1), some (.ref v2), some (.int v3), some (.int v4), some (.int x4), some (.int x5), some (.int x6), some (.int 1000), none] rfl ?_
  refine ok_iload dX1_fillRow_52 rfl ?_
  refine ok_if_le 72 dX1_fillRow_54 (by decide) (fun z7 => ?_) (fun z7 => ?_)
  · replace h := h.1 z7
    refine ok_iload dX1_fillRow_72 rfl ?_
    refine ok_istore dX1_fillRow_74 (by decide) [some (.ref v0), some (.ref v1), some (.ref v2), some (.int v3), some (.int v4), some (.int x4), some (.int x5), some (.int x6), some (.int 1000), some (.int x5)] rfl ?_
    refine ok_wk [some (.ref v0), some (.ref v1), some (.ref v2), some (.int v3), some (.int v4), some (.int x4), none, some (.int x6), some (.int 1000), some (.int x5)] ⟨rfl, rfl, rfl, rfl, rfl, rfl, rfl, rfl, rfl, trivial⟩ ?_
    exact h
  · replace h := h.2 z7
    refine ok_aload_n 0 dX1_fillRow_57 rfl rfl ?_
    refine ok_getr 1 0 dX1_fillRow_58 f1_11 rfl c3 ?_
    refine ok_iload dX1_fillRow_61 rfl ?_
    obtain ⟨c8, h⟩ := h
    obtain ⟨c9, h⟩ := h
    refine ok_ald3 dX1_fillRow_63 c8 c9 ?_
    refine ok_iload dX1_fillRow_64 rfl ?_
    refine ok_iconst 1 dX1_fillRow_66 (by decide) ?_
    refine ok_isub dX1_fillRow_67 ?_
    refine ok_sipush 1000 dX1_fillRow_68 (by decide) ?_
    obtain ⟨c10, h⟩ := h
    obtain ⟨c11, h⟩ := h
    refine ok_iast dX1_fillRow_71 c10 c11 ?_
    refine ok_nmi (fun i12 ei12 => ?_)
    replace h := h i12 ei12
    refine ok_iload dX1_fillRow_72 rfl ?_
    refine ok_istore dX1_fillRow_74 (by decide) [some (.ref v0), some (.ref v1), some (.ref v2), some (.int v3), some (.int v4), some (.int x4), some (.int x5), some (.int x6), some (.int 1000), some (.int x5)] rfl ?_
    refine ok_wk [some (.ref v0), some (.ref v1), some (.ref v2), some (.int v3), some (.int v4), some (.int x4), none, some (.int x6), some (.int 1000), some (.int x5)] ⟨rfl, rfl, rfl, rfl, rfl, rfl, rfl, rfl, rfl, trivial⟩ ?_
    exact h

set_option maxRecDepth 100000 in
set_option maxHeartbeats 4000000 in
theorem sX1_fillRow_76 {G : o_G} {d : Nat} {P : o_P} {i : o_I} {r : o_R} (v0 : Nat) (v1 : Nat) (v2 : Nat) (v3 : Int32) (v4 : Int32) (v5 : Int32) (v7 : Int32) (v8 : Int32) (v9 : Int32)
    (h : ((v7 < v9 → ((v5 ≤ v7 → P (some (.int v8)) i r) ∧ (¬ v5 ≤ v7 → o_O G v0 1 ∧ o_Y G (r v0 0) 3 ∧ vp_in v4 (o_len G (r v0 0)) ∧ o_Y G (r (r v0 0) v4.toNatClampNeg) 1 ∧ vp_in (v7 + 1) (o_len G (r (r v0 0) v4.toNatClampNeg)) ∧ ∀ i8 : o_I, i8 = o_up i (r (r v0 0) v4.toNatClampNeg) (v7 + 1).toNatClampNeg 1000 → P (some (.int v8)) i8 r))) ∧ (¬ v7 < v9 → o_O G v0 1 ∧ o_Y G (r v0 0) 3 ∧ vp_in v4 (o_len G (r v0 0)) ∧ SpI G d mX1_distanceAt [.ref v0, .ref v1, .ref v2, .int v3, .int v4, .int v9] (fun x12 i12 => o_Y G (r (r v0 0) v4.toNatClampNeg) 1 ∧ vp_in v9 (o_len G (r (r v0 0) v4.toNatClampNeg)) ∧ ∀ i15 : o_I, i15 = o_up i12 (r (r v0 0) v4.toNatClampNeg) v9.toNatClampNeg x12 → ∀ x16 : Int32, x16 = (if (i15 (r (r v0 0) v4.toNatClampNeg) v9.toNatClampNeg) < v8 then (i15 (r (r v0 0) v4.toNatClampNeg) v9.toNatClampNeg) else v8) → ∀ x17 : Int32, x17 = v9 + 1 → Ok G (d + 1) mX1_fillRow P 76 [some (.ref v0), some (.ref v1), some (.ref v2), some (.int v3), some (.int v4), some (.int v5), none, some (.int v7), some (.int x16), some (.int x17)] [] i15 r) i r))) :
    Ok G (d + 1) mX1_fillRow P 76 [some (.ref v0), some (.ref v1), some (.ref v2), some (.int v3), some (.int v4), some (.int v5), none, some (.int v7), some (.int v8), some (.int v9)] [] i r := by
  refine ok_iload dX1_fillRow_76 rfl ?_
  refine ok_iload dX1_fillRow_78 rfl ?_
  refine ok_ic_gt 127 dX1_fillRow_80 (by decide) (fun z1 => ?_) (fun z1 => ?_)
  · replace h := h.1 z1
    refine ok_iload dX1_fillRow_127 rfl ?_
    refine ok_iload dX1_fillRow_129 rfl ?_
    refine ok_ic_ge 149 dX1_fillRow_131 (by decide) (fun z2 => ?_) (fun z2 => ?_)
    · replace h := h.1 z2
      refine ok_iload dX1_fillRow_149 rfl ?_
      exact ok_iret .int dX1_fillRow_151 rfl rfl h
    · replace h := h.2 z2
      refine ok_aload_n 0 dX1_fillRow_134 rfl rfl ?_
      obtain ⟨c3, h⟩ := h
      refine ok_getr 1 0 dX1_fillRow_135 f1_11 rfl c3 ?_
      refine ok_iload dX1_fillRow_138 rfl ?_
      obtain ⟨c4, h⟩ := h
      obtain ⟨c5, h⟩ := h
      refine ok_ald3 dX1_fillRow_140 c4 c5 ?_
      refine ok_iload dX1_fillRow_141 rfl ?_
      refine ok_iconst 1 dX1_fillRow_143 (by decide) ?_
      refine ok_iadd dX1_fillRow_144 ?_
      refine ok_sipush 1000 dX1_fillRow_145 (by decide) ?_
      obtain ⟨c6, h⟩ := h
      obtain ⟨c7, h⟩ := h
      refine ok_iast dX1_fillRow_148 c6 c7 ?_
      refine ok_nmi (fun i8 ei8 => ?_)
      replace h := h i8 ei8
      refine ok_iload dX1_fillRow_149 rfl ?_
      exact ok_iret .int dX1_fillRow_151 rfl rfl h
  · replace h := h.2 z1
    refine ok_aload_n 0 dX1_fillRow_83 rfl rfl ?_
    obtain ⟨c9, h⟩ := h
    refine ok_getr 1 0 dX1_fillRow_84 f1_11 rfl c9 ?_
    refine ok_iload dX1_fillRow_87 rfl ?_
    obtain ⟨c10, h⟩ := h
    obtain ⟨c11, h⟩ := h
    refine ok_ald3 dX1_fillRow_89 c10 c11 ?_
    refine ok_iload dX1_fillRow_90 rfl ?_
    refine ok_aload_n 0 dX1_fillRow_92 rfl rfl ?_
    refine ok_aload_n 1 dX1_fillRow_93 rfl rfl ?_
    refine ok_aload_n 2 dX1_fillRow_94 rfl rfl ?_
    refine ok_iload_n 3 dX1_fillRow_95 rfl rfl ?_
    refine ok_iload dX1_fillRow_96 rfl ?_
    refine ok_iload dX1_fillRow_98 rfl ?_
    refine ok_cVi (rest := [.int v9, .ref (r (r v0 0) v4.toNatClampNeg)]) o_rc 1 [.ref v1, .ref v2, .int v3, .int v4, .int v9] dX1_fillRow_100 k1_96 c9 rfl rfl (Nat.le_of_ble_eq_true rfl) h (fun x12 i12 h => ?_)
    obtain ⟨c13, h⟩ := h
    obtain ⟨c14, h⟩ := h
    refine ok_iast dX1_fillRow_103 c13 c14 ?_
    refine ok_nmi (fun i15 ei15 => ?_)
    replace h := h i15 ei15
    refine ok_iload dX1_fillRow_104 rfl ?_
    refine ok_aload_n 0 dX1_fillRow_106 rfl rfl ?_
    refine ok_getr 1 0 dX1_fillRow_107 f1_11 rfl c9 ?_
    refine ok_iload dX1_fillRow_110 rfl ?_
    refine ok_ald3 dX1_fillRow_112 c10 c11 ?_
    refine ok_iload dX1_fillRow_113 rfl ?_
    refine ok_iald dX1_fillRow_115 c13 c14 ?_
    refine ok_min o_rc dX1_fillRow_116 l1_85 w_min_2 w_math w_min_4 (Nat.le_of_ble_eq_true rfl) ?_
    refine ok_topi (fun x16 ex16 => ?_)
    replace h := h x16 ex16
    refine ok_istore dX1_fillRow_119 (by decide) [some (.ref v0), some (.ref v1), some (.ref v2), some (.int v3), some (.int v4), some (.int v5), none, some (.int v7), some (.int x16), some (.int v9)] rfl ?_
    refine ok_eqi (v9 + 1) (fun x17 ex17 => ?_)
    replace h := h x17 ex17
    refine ok_iinc 1 x17 dX1_fillRow_121 rfl (by decide) ex17 (by decide) [some (.ref v0), some (.ref v1), some (.ref v2), some (.int v3), some (.int v4), some (.int v5), none, some (.int v7), some (.int x16), some (.int x17)] rfl ?_
    refine ok_goto 76 dX1_fillRow_124 (by decide) ?_
    exact h

set_option maxRecDepth 100000 in
set_option maxHeartbeats 4000000 in
theorem sX1_search_0 {G : o_G} {d : Nat} {P : o_P} {i : o_I} {r : o_R} (v0 : Nat) (v1 : Nat) (v2 : Nat) (v3 : Int32)
    (h : Ok G (d + 1) mX1_search P 3 [some (.ref v0), some (.ref v1), some (.ref v2), some (.int v3), some (.int 0), none, none, none] [] i r) :
    Ok G (d + 1) mX1_search P 0 [some (.ref v0), some (.ref v1), some (.ref v2), some (.int v3), none, none, none, none] [] i r := by
  refine ok_iconst 0 dX1_search_0 (by decide) ?_
  refine ok_istore dX1_search_1 (by decide) [some (.ref v0), some (.ref v1), some (.ref v2), some (.int v3), some (.int 0), none, none, none] rfl ?_
  exact h

set_option maxRecDepth 100000 in
set_option maxHeartbeats 4000000 in
theorem sX1_search_3 {G : o_G} {d : Nat} {P : o_P} {i : o_I} {r : o_R} (v0 : Nat) (v1 : Nat) (v2 : Nat) (v3 : Int32) (v4 : Int32)
    (h : o_O G v2 6 ∧ (((i v2 3) ≤ v4 → P none i r) ∧ (¬ (i v2 3) ≤ v4 → o_O G v0 1 ∧ SpI G d mX1_fill [.ref v0, .ref v1, .ref v2, .int v4] (fun x4 i4 => ((x4 = 0 → ∀ x6 : Int32, x6 = v4 + 1 → Ok G (d + 1) mX1_search P 3 [some (.ref v0), some (.ref v1), some (.ref v2), some (.int v3), some (.int x6), none, none, none] [] i4 r) ∧ (¬ x4 = 0 → o_O G v1 5 ∧ ∀ x8 : Int32, x8 = (if 1 < ((i4 v1 2) - (i4 v0 1)) then ((i4 v1 2) - (i4 v0 1)) else 1) → ∀ x9 : Int32, x9 = (if ((i4 v1 2) + (i4 v0 1)) < ((i4 v2 3) - v4) then ((i4 v1 2) + (i4 v0 1)) else ((i4 v2 3) - v4)) → Ok G (d + 1) mX1_search P 63 [some (.ref v0), some (.ref v1), some (.ref v2), some (.int v3), some (.int v4), none, some (.int x9), some (.int x8)] [] i4 r))) i r))) :
    Ok G (d + 1) mX1_search P 3 [some (.ref v0), some (.ref v1), some (.ref v2), some (.int v3), some (.int v4), none, none, none] [] i r := by
  refine ok_iload dX1_search_3 rfl ?_
  refine ok_aload_n 2 dX1_search_5 rfl rfl ?_
  obtain ⟨c1, h⟩ := h
  refine ok_geti 6 3 dX1_search_6 f1_67 rfl c1 ?_
  refine ok_ic_ge 106 dX1_search_9 (by decide) (fun z2 => ?_) (fun z2 => ?_)
  · replace h := h.1 z2
    exact ok_vret dX1_search_106 rfl h
  · replace h := h.2 z2
    refine ok_aload_n 0 dX1_search_12 rfl rfl ?_
    refine ok_aload_n 1 dX1_search_13 rfl rfl ?_
    refine ok_aload_n 2 dX1_search_14 rfl rfl ?_
    refine ok_iload dX1_search_15 rfl ?_
    obtain ⟨c3, h⟩ := h
    refine ok_cVi (rest := []) o_rc 1 [.ref v1, .ref v2, .int v4] dX1_search_17 k1_72 c3 rfl rfl (Nat.le_of_ble_eq_true rfl) h (fun x4 i4 h => ?_)
    refine ok_if_eq 100 dX1_search_20 (by decide) (fun z5 => ?_) (fun z5 => ?_)
    · replace h := h.1 z5
      refine ok_eqi (v4 + 1) (fun x6 ex6 => ?_)
      replace h := h x6 ex6
      refine ok_iinc 1 x6 dX1_search_100 rfl (by decide) ex6 (by decide) [some (.ref v0), some (.ref v1), some (.ref v2), some (.int v3), some (.int x6), none, none, none] rfl ?_
      refine ok_goto 3 dX1_search_103 (by decide) ?_
      exact h
    · replace h := h.2 z5
      refine ok_iconst 1 dX1_search_23 (by decide) ?_
      refine ok_aload_n 1 dX1_search_24 rfl rfl ?_
      obtain ⟨c7, h⟩ := h
      refine ok_geti 5 2 dX1_search_25 f1_76 rfl c7 ?_
      refine ok_aload_n 0 dX1_search_28 rfl rfl ?_
      refine ok_geti 1 1 dX1_search_29 f1_16 rfl c3 ?_
      refine ok_isub dX1_search_32 ?_
      refine ok_max o_rc dX1_search_33 l1_79 w_max_2 w_math w_max_4 (Nat.le_of_ble_eq_true rfl) ?_
      refine ok_topi (fun x8 ex8 => ?_)
      replace h := h x8 ex8
      refine ok_istore dX1_search_36 (by decide) [some (.ref v0), some (.ref v1), some (.ref v2), some (.int v3), some (.int v4), some (.int x8), none, none] rfl ?_
      refine ok_aload_n 2 dX1_search_38 rfl rfl ?_
      refine ok_geti 6 3 dX1_search_39 f1_67 rfl c1 ?_
      refine ok_iload dX1_search_42 rfl ?_
      refine ok_isub dX1_search_44 ?_
      refine ok_aload_n 1 dX1_search_45 rfl rfl ?_
      refine ok_geti 5 2 dX1_search_46 f1_76 rfl c7 ?_
      refine ok_aload_n 0 dX1_search_49 rfl rfl ?_
      refine ok_geti 1 1 dX1_search_50 f1_16 rfl c3 ?_
      refine ok_iadd dX1_search_53 ?_
      refine ok_min o_rc dX1_search_54 l1_85 w_min_2 w_math w_min_4 (Nat.le_of_ble_eq_true rfl) ?_
      refine ok_topi (fun x9 ex9 => ?_)
      replace h := h x9 ex9
      refine ok_istore dX1_search_57 (by decide) [some (.ref v0), some (.ref v1), some (.ref v2), some (.int v3), some (.int v4), some (.int x8), some (.int x9), none] rfl ?_
      refine ok_iload dX1_search_59 rfl ?_
      refine ok_istore dX1_search_61 (by decide) [some (.ref v0), some (.ref v1), some (.ref v2), some (.int v3), some (.int v4), some (.int x8), some (.int x9), some (.int x8)] rfl ?_
      refine ok_wk [some (.ref v0), some (.ref v1), some (.ref v2), some (.int v3), some (.int v4), none, some (.int x9), some (.int x8)] ⟨rfl, rfl, rfl, rfl, rfl, rfl, rfl, trivial⟩ ?_
      exact h

set_option maxRecDepth 100000 in
set_option maxHeartbeats 4000000 in
theorem sX1_search_63 {G : o_G} {d : Nat} {P : o_P} {i : o_I} {r : o_R} (v0 : Nat) (v1 : Nat) (v2 : Nat) (v3 : Int32) (v4 : Int32) (v6 : Int32) (v7 : Int32)
    (h : ((v6 < v7 → ∀ x2 : Int32, x2 = v4 + 1 → Ok G (d + 1) mX1_search P 3 [some (.ref v0), some (.ref v1), some (.ref v2), some (.int v3), some (.int x2), none, none, none] [] i r) ∧ (¬ v6 < v7 → o_O G v0 1 ∧ o_O G v1 5 ∧ o_Y G (r v0 0) 3 ∧ vp_in (i v1 2) (o_len G (r v0 0)) ∧ o_Y G (r (r v0 0) (i v1 2).toNatClampNeg) 1 ∧ vp_in v7 (o_len G (r (r v0 0) (i v1 2).toNatClampNeg)) ∧ SpV G d mX1_consider [.ref v0, .int v4, .int (v4 + v7), .int (i (r (r v0 0) (i v1 2).toNatClampNeg) v7.toNatClampNeg), .int v3] (fun i9 => ∀ x10 : Int32, x10 = v7 + 1 → Ok G (d + 1) mX1_search P 63 [some (.ref v0), some (.ref v1), some (.ref v2), some (.int v3), some (.int v4), none, some (.int v6), some (.int x10)] [] i9 r) i r))) :
    Ok G (d + 1) mX1_search P 63 [some (.ref v0), some (.ref v1), some (.ref v2), some (.int v3), some (.int v4), none, some (.int v6), some (.int v7)] [] i r := by
  refine ok_iload dX1_search_63 rfl ?_
  refine ok_iload dX1_search_65 rfl ?_
  refine ok_ic_gt 100 dX1_search_67 (by decide) (fun z1 => ?_) (fun z1 => ?_)
  · replace h := h.1 z1
    refine ok_eqi (v4 + 1) (fun x2 ex2 => ?_)
    replace h := h x2 ex2
    refine ok_iinc 1 x2 dX1_search_100 rfl (by decide) ex2 (by decide) [some (.ref v0), some (.ref v1), some (.ref v2), some (.int v3), some (.int x2), none, some (.int v6), some (.int v7)] rfl ?_
    refine ok_goto 3 dX1_search_103 (by decide) ?_
    refine ok_wk [some (.ref v0), some (.ref v1), some (.ref v2), some (.int v3), some (.int x2), none, none, none] ⟨rfl, rfl, rfl, rfl, rfl, trivial⟩ ?_
    exact h
  · replace h := h.2 z1
    refine ok_aload_n 0 dX1_search_70 rfl rfl ?_
    refine ok_iload dX1_search_71 rfl ?_
    refine ok_iload dX1_search_73 rfl ?_
    refine ok_iload dX1_search_75 rfl ?_
    refine ok_iadd dX1_search_77 ?_
    refine ok_aload_n 0 dX1_search_78 rfl rfl ?_
    obtain ⟨c3, h⟩ := h
    refine ok_getr 1 0 dX1_search_79 f1_11 rfl c3 ?_
    refine ok_aload_n 1 dX1_search_82 rfl rfl ?_
    obtain ⟨c4, h⟩ := h
    refine ok_geti 5 2 dX1_search_83 f1_76 rfl c4 ?_
    obtain ⟨c5, h⟩ := h
    obtain ⟨c6, h⟩ := h
    refine ok_ald3 dX1_search_86 c5 c6 ?_
    refine ok_iload dX1_search_87 rfl ?_
    obtain ⟨c7, h⟩ := h
    obtain ⟨c8, h⟩ := h
    refine ok_iald dX1_search_89 c7 c8 ?_
    refine ok_iload_n 3 dX1_search_90 rfl rfl ?_
    refine ok_cVv (rest := []) o_rc 1 [.int v4, .int (v4 + v7), .int (i (r (r v0 0) (i v1 2).toNatClampNeg) v7.toNatClampNeg), .int v3] dX1_search_91 k1_88 c3 rfl rfl (Nat.le_of_ble_eq_true rfl) h (fun i9 h => ?_)
    refine ok_eqi (v7 + 1) (fun x10 ex10 => ?_)
    replace h := h x10 ex10
    refine ok_iinc 1 x10 dX1_search_94 rfl (by decide) ex10 (by decide) [some (.ref v0), some (.ref v1), some (.ref v2), some (.int v3), some (.int v4), none, some (.int v6), some (.int x10)] rfl ?_
    refine ok_goto 63 dX1_search_97 (by decide) ?_
    exact h

set_option maxRecDepth 100000 in
set_option maxHeartbeats 4000000 in
theorem sX1_settle_0 {G : o_G} {d : Nat} {P : o_P} {i : o_I} {r : o_R} (v0 : Nat) (v1 : Nat) (v2 : Nat) (v3 : Int32)
    (h : o_O G v0 1 ∧ ∀ i2 : o_I, i2 = o_up i v0 1 v3 → ∀ i3 : o_I, i3 = o_up i2 v0 2 0 → SpV G d mX1_search [.ref v0, .ref v1, .ref v2, .int 0] (fun i4 => o_O G v1 5 ∧ SpV G d mX5_turn [.ref v1] (fun i6 => SpV G d mX1_search [.ref v0, .ref v1, .ref v2, .int 1] (fun i7 => SpI G d mX1_state [.ref v0] (fun x8 i8 => ∀ i9 : o_I, i9 = o_up i8 v1 3 x8 → ∀ i10 : o_I, i10 = o_up i9 v1 9 0 → (((i10 v1 3) = 0 → ((¬ (i10 v0 5) = 0 → Ok G (d + 1) mX1_settle P 60 [some (.ref v0), some (.ref v1), some (.ref v2), none] [] i10 r) ∧ ((i10 v0 5) = 0 → SpV G d mX5_turn [.ref v1] (fun i13 => Ok G (d + 1) mX1_settle P 60 [some (.ref v0), some (.ref v1), some (.ref v2), none] [] i13 r) i10 r))) ∧ (¬ (i10 v1 3) = 0 → P none i10 r))) i7 r) i6 r) i4 r) i3 r) :
    Ok G (d + 1) mX1_settle P 0 [some (.ref v0), some (.ref v1), some (.ref v2), some (.int v3)] [] i r := by
  refine ok_aload_n 0 dX1_settle_0 rfl rfl ?_
  refine ok_iload_n 3 dX1_settle_1 rfl rfl ?_
  obtain ⟨c1, h⟩ := h
  refine ok_puti 1 1 .int dX1_settle_2 f1_16 rfl rfl (by decide +kernel) rfl rfl c1 ?_
  refine ok_nmi (fun i2 ei2 => ?_)
  replace h := h i2 ei2
  refine ok_aload_n 0 dX1_settle_5 rfl rfl ?_
  refine ok_iconst 0 dX1_settle_6 (by decide) ?_
  refine ok_puti 1 2 .boolean dX1_settle_7 f1_20 rfl rfl (by decide +kernel) rfl rfl c1 ?_
  refine ok_nmi (fun i3 ei3 => ?_)
  replace h := h i3 ei3
  refine ok_aload_n 0 dX1_settle_10 rfl rfl ?_
  refine ok_aload_n 1 dX1_settle_11 rfl rfl ?_
  refine ok_aload_n 2 dX1_settle_12 rfl rfl ?_
  refine ok_iconst 0 dX1_settle_13 (by decide) ?_
  refine ok_cVv (rest := []) o_rc 1 [.ref v1, .ref v2, .int 0] dX1_settle_14 k1_39 c1 rfl rfl (Nat.le_of_ble_eq_true rfl) h (fun i4 h => ?_)
  refine ok_aload_n 1 dX1_settle_17 rfl rfl ?_
  obtain ⟨c5, h⟩ := h
  refine ok_cVv (rest := []) o_rc 5 [] dX1_settle_18 k1_43 c5 rfl rfl (Nat.le_of_ble_eq_true rfl) h (fun i6 h => ?_)
  refine ok_aload_n 0 dX1_settle_21 rfl rfl ?_
  refine ok_aload_n 1 dX1_settle_22 rfl rfl ?_
  refine ok_aload_n 2 dX1_settle_23 rfl rfl ?_
  refine ok_iconst 1 dX1_settle_24 (by decide) ?_
  refine ok_cVv (rest := []) o_rc 1 [.ref v1, .ref v2, .int 1] dX1_settle_25 k1_39 c1 rfl rfl (Nat.le_of_ble_eq_true rfl) h (fun i7 h => ?_)
  refine ok_aload_n 1 dX1_settle_28 rfl rfl ?_
  refine ok_aload_n 0 dX1_settle_29 rfl rfl ?_
  refine ok_cVi (rest := [.ref v1]) o_rc 1 [] dX1_settle_30 k1_48 c1 rfl rfl (Nat.le_of_ble_eq_true rfl) h (fun x8 i8 h => ?_)
  refine ok_puti 5 3 .int dX1_settle_33 f1_52 rfl rfl (by decide +kernel) rfl rfl c5 ?_
  refine ok_nmi (fun i9 ei9 => ?_)
  replace h := h i9 ei9
  refine ok_aload_n 1 dX1_settle_36 rfl rfl ?_
  refine ok_iconst 0 dX1_settle_37 (by decide) ?_
  refine ok_puti 5 9 .int dX1_settle_38 f1_54 rfl rfl (by decide +kernel) rfl rfl c5 ?_
  refine ok_nmi (fun i10 ei10 => ?_)
  replace h := h i10 ei10
  refine ok_aload_n 1 dX1_settle_41 rfl rfl ?_
  refine ok_geti 5 3 dX1_settle_42 f1_52 rfl c5 ?_
  refine ok_if_eq 49 dX1_settle_45 (by decide) (fun z11 => ?_) (fun z11 => ?_)
  · replace h := h.1 z11
    refine ok_aload_n 0 dX1_settle_49 rfl rfl ?_
    refine ok_geti 1 5 dX1_settle_50 f1_30 rfl c1 ?_
    refine ok_if_ne 60 dX1_settle_53 (by decide) (fun z12 => ?_) (fun z12 => ?_)
    · replace h := h.1 z12
      refine ok_wk [some (.ref v0), some (.ref v1), some (.ref v2), none] ⟨rfl, rfl, rfl, trivial⟩ ?_
      exact h
    · replace h := h.2 z12
      refine ok_aload_n 1 dX1_settle_56 rfl rfl ?_
      refine ok_cVv (rest := []) o_rc 5 [] dX1_settle_57 k1_43 c5 rfl rfl (Nat.le_of_ble_eq_true rfl) h (fun i13 h => ?_)
      refine ok_wk [some (.ref v0), some (.ref v1), some (.ref v2), none] ⟨rfl, rfl, rfl, trivial⟩ ?_
      exact h
  · replace h := h.2 z11
    exact ok_vret dX1_settle_48 rfl h

set_option maxRecDepth 100000 in
set_option maxHeartbeats 4000000 in
theorem sX1_settle_60 {G : o_G} {d : Nat} {P : o_P} {i : o_I} {r : o_R} (v0 : Nat) (v1 : Nat) (v2 : Nat)
    (h : o_O G v0 1 ∧ o_O G v1 5 ∧ ∀ i3 : o_I, i3 = o_up i v1 4 (i v0 3) → ∀ i4 : o_I, i4 = o_up i3 v1 5 (i3 v0 4) → ∀ i5 : o_I, i5 = o_up i4 v1 6 (i4 v0 1) → ((i5 v0 5) = 0 ∨ (i5 v0 5) = 1) ∧ ∀ i6 : o_I, i6 = o_up i5 v1 7 (i5 v0 5) → SpV G d mX1_writeScript [.ref v0, .ref v1, .ref v2] (fun i8 => P none i8 r) i6 r) :
    Ok G (d + 1) mX1_settle P 60 [some (.ref v0), some (.ref v1), some (.ref v2), none] [] i r := by
  refine ok_aload_n 1 dX1_settle_60 rfl rfl ?_
  refine ok_aload_n 0 dX1_settle_61 rfl rfl ?_
  obtain ⟨c1, h⟩ := h
  refine ok_geti 1 3 dX1_settle_62 f1_24 rfl c1 ?_
  obtain ⟨c2, h⟩ := h
  refine ok_puti 5 4 .int dX1_settle_65 f1_57 rfl rfl (by decide +kernel) rfl rfl c2 ?_
  refine ok_nmi (fun i3 ei3 => ?_)
  replace h := h i3 ei3
  refine ok_aload_n 1 dX1_settle_68 rfl rfl ?_
  refine ok_aload_n 0 dX1_settle_69 rfl rfl ?_
  refine ok_geti 1 4 dX1_settle_70 f1_27 rfl c1 ?_
  refine ok_puti 5 5 .int dX1_settle_73 f1_58 rfl rfl (by decide +kernel) rfl rfl c2 ?_
  refine ok_nmi (fun i4 ei4 => ?_)
  replace h := h i4 ei4
  refine ok_aload_n 1 dX1_settle_76 rfl rfl ?_
  refine ok_aload_n 0 dX1_settle_77 rfl rfl ?_
  refine ok_geti 1 1 dX1_settle_78 f1_16 rfl c1 ?_
  refine ok_puti 5 6 .int dX1_settle_81 f1_59 rfl rfl (by decide +kernel) rfl rfl c2 ?_
  refine ok_nmi (fun i5 ei5 => ?_)
  replace h := h i5 ei5
  refine ok_aload_n 1 dX1_settle_84 rfl rfl ?_
  refine ok_aload_n 0 dX1_settle_85 rfl rfl ?_
  refine ok_geti 1 5 dX1_settle_86 f1_30 rfl c1 ?_
  obtain ⟨c7, h⟩ := h
  refine ok_puti 5 7 .boolean dX1_settle_89 f1_62 rfl rfl (by decide +kernel) (o_bool c7).1 (o_bool c7).2 c2 ?_
  refine ok_nmi (fun i6 ei6 => ?_)
  replace h := h i6 ei6
  refine ok_aload_n 0 dX1_settle_92 rfl rfl ?_
  refine ok_aload_n 1 dX1_settle_93 rfl rfl ?_
  refine ok_aload_n 2 dX1_settle_94 rfl rfl ?_
  refine ok_cVv (rest := []) o_rc 1 [.ref v1, .ref v2] dX1_settle_95 k1_63 c1 rfl rfl (Nat.le_of_ble_eq_true rfl) h (fun i8 h => ?_)
  exact ok_vret dX1_settle_98 rfl h

set_option maxRecDepth 100000 in
set_option maxHeartbeats 4000000 in
theorem sX1_state_0 {G : o_G} {d : Nat} {P : o_P} {i : o_I} {r : o_R} (v0 : Nat)
    (h : o_O G v0 1 ∧ ((¬ (i v0 2) = 0 → (∀ x4 : Int32, x4 = (if (i v0 7) < (i v0 6) then 0 else 2) → P (some (.int x4)) i r)) ∧ ((i v0 2) = 0 → P (some (.int 1)) i r))) :
    Ok G (d + 1) mX1_state P 0 [some (.ref v0)] [] i r := by
  refine ok_aload_n 0 dX1_state_0 rfl rfl ?_
  obtain ⟨c1, h⟩ := h
  refine ok_geti 1 2 dX1_state_1 f1_20 rfl c1 ?_
  refine ok_if_ne 9 dX1_state_4 (by decide) (fun z2 => ?_) (fun z2 => ?_)
  · replace h := h.1 z2
    refine ok_aload_n 0 dX1_state_9 rfl rfl ?_
    refine ok_geti 1 6 dX1_state_10 f1_33 rfl c1 ?_
    refine ok_aload_n 0 dX1_state_13 rfl rfl ?_
    refine ok_geti 1 7 dX1_state_14 f1_36 rfl c1 ?_
    have k5 : ∀ x4 : Int32, x4 = (if (i v0 7) < (i v0 6) then 0 else 2) → Ok G (d + 1) mX1_state P 25 [none] [.int x4] i r := by
      intro x4 ex4
      replace h := h x4 ex4
      exact ok_iret .int dX1_state_25 rfl rfl h
    clear h
    refine ok_ic_gt 24 dX1_state_17 (by decide) (fun z3 => ?_) (fun z3 => ?_)
    · refine ok_iconst 0 dX1_state_24 (by decide) ?_
      refine ok_wk [none] trivial ?_
      exact k5 (0) (by simp only [if_pos z3])
    · refine ok_iconst 2 dX1_state_20 (by decide) ?_
      refine ok_goto 25 dX1_state_21 (by decide) ?_
      refine ok_wk [none] trivial ?_
      exact k5 (2) (by simp only [if_neg z3])
  · replace h := h.2 z2
    refine ok_iconst 1 dX1_state_7 (by decide) ?_
    exact ok_iret .int dX1_state_8 rfl rfl h


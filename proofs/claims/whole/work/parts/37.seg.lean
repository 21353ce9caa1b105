set_option maxRecDepth 100000 in
set_option maxHeartbeats 4000000 in
theorem sJ_isLatin1_0 {G : o_G} {d : Nat} {P : o_P} {i : o_I} {r : o_R} (v0 : Nat)
    (h : o_cst G ∧ ((k_com = 0 → True) ∧ (¬ k_com = 0 → 2 ≤ v0 ∧ v0 ≤ 5 ∧ True)) ∧ (∀ x6 : Int32, x6 = (if k_com = 0 then 0 else (if k_cod = 0 then 1 else 0)) → (x6 = 0 ∨ x6 = 1) ∧ P (some (.int x6)) i r)) :
    Ok G (d + 1) mJ_isLatin1 P 0 [some (.ref (o_ad G v0))] [] i r := by
  obtain ⟨c1, h⟩ := h
  refine ok_gets "java/lang/String" "COMPACT_STRINGS" "Z" dJ_isLatin1_0 (fun U hU => (c1 U hU).2.2.2.1) gJ0_38 ?_
  obtain ⟨hs, h⟩ := h
  have k8 : ∀ x6 : Int32, x6 = (if k_com = 0 then 0 else (if k_cod = 0 then 1 else 0)) → Ok G (d + 1) mJ_isLatin1 P 18 [none] [.int x6] i r := by
    intro x6 ex6
    replace h := h x6 ex6
    obtain ⟨c7, h⟩ := h
    exact ok_iret .boolean dJ_isLatin1_18 rfl (o_bool c7).1 h
  clear h
  refine ok_if_eq 17 dJ_isLatin1_3 (by decide) (fun z2 => ?_) (fun z2 => ?_)
  · replace hs := hs.1 z2
    refine ok_iconst 0 dJ_isLatin1_17 (by decide) ?_
    refine ok_wk [none] trivial ?_
    exact k8 (0) (by simp only [if_pos z2])
  · replace hs := hs.2 z2
    refine ok_aload_n 0 dJ_isLatin1_6 rfl rfl ?_
    obtain ⟨c3, hs⟩  := hs
    obtain ⟨c4, hs⟩  := hs
    refine ok_sget "java/lang/String" "coder" "B" dJ_isLatin1_7 (c1.cod c3 c4) gJ0_15 ?_
    refine ok_if_ne 17 dJ_isLatin1_10 (by decide) (fun z5 => ?_) (fun z5 => ?_)
    · refine ok_iconst 0 dJ_isLatin1_17 (by decide) ?_
      refine ok_wk [none] trivial ?_
      exact k8 (0) (by simp only [if_neg z2, if_neg z5])
    · refine ok_iconst 1 dJ_isLatin1_13 (by decide) ?_
      refine ok_goto 18 dJ_isLatin1_14 (by decide) ?_
      refine ok_wk [none] trivial ?_
      exact k8 (1) (by simp only [if_neg z2, if_pos z5])

set_option maxRecDepth 100000 in
set_option maxHeartbeats 4000000 in
theorem sJ_length_0 {G : o_G} {d : Nat} {P : o_P} {i : o_I} {r : o_R} (v0 : Nat)
    (h : o_cst G ∧ 2 ≤ v0 ∧ v0 ≤ 5 ∧ 10 ≤ (v0 + 8) ∧ (v0 + 8) ≤ 13 ∧ SpI G d mJ_coder [.ref (o_ad G v0)] (fun x6 i6 => P (some (.int ((nI (k_sl.getD ((v0 + 8) - 10) 0)) >>> (x6 &&& 31)))) i6 r) i r) :
    Ok G (d + 1) mJ_length P 0 [some (.ref (o_ad G v0))] [] i r := by
  refine ok_aload_n 0 dJ_length_0 rfl rfl ?_
  obtain ⟨c1, h⟩ := h
  obtain ⟨c2, h⟩ := h
  obtain ⟨c3, h⟩ := h
  refine ok_sget "java/lang/String" "value" "[B" dJ_length_1 (c1.val c2 c3) gJ0_9 ?_
  obtain ⟨c4, h⟩ := h
  obtain ⟨c5, h⟩ := h
  refine ok_tlen dJ_length_4 (c1.byt c4 c5) ?_
  refine ok_aload_n 0 dJ_length_5 rfl rfl ?_
  refine ok_cTi (rest := [.int (nI (k_sl.getD ((v0 + 8) - 10) 0))]) o_rc c1 c2 c3 [] dJ_length_6 kJ0_335 rfl rfl (Nat.le_of_ble_eq_true rfl) h (fun x6 i6 h => ?_)
  refine ok_ishr dJ_length_9 ?_
  exact ok_iret .int dJ_length_10 rfl rfl h

set_option maxRecDepth 100000 in
set_option maxHeartbeats 4000000 in
theorem sJ_coder_0 {G : o_G} {d : Nat} {P : o_P} {i : o_I} {r : o_R} (v0 : Nat)
    (h : o_cst G ∧ ((k_com = 0 → True) ∧ (¬ k_com = 0 → 2 ≤ v0 ∧ v0 ≤ 5 ∧ True)) ∧ (∀ x5 : Int32, x5 = (if k_com = 0 then 1 else k_cod) → narrow .byte (.int x5) = .int x5 ∧ P (some (.int x5)) i r)) :
    Ok G (d + 1) mJ_coder P 0 [some (.ref (o_ad G v0))] [] i r := by
  obtain ⟨c1, h⟩ := h
  refine ok_gets "java/lang/String" "COMPACT_STRINGS" "Z" dJ_coder_0 (fun U hU => (c1 U hU).2.2.2.1) gJ0_38 ?_
  obtain ⟨hs, h⟩ := h
  have k7 : ∀ x5 : Int32, x5 = (if k_com = 0 then 1 else k_cod) → Ok G (d + 1) mJ_coder P 14 [none] [.int x5] i r := by
    intro x5 ex5
    replace h := h x5 ex5
    obtain ⟨c6, h⟩ := h
    exact ok_iret .byte dJ_coder_14 rfl c6 h
  clear h
  refine ok_if_eq 13 dJ_coder_3 (by decide) (fun z2 => ?_) (fun z2 => ?_)
  · replace hs := hs.1 z2
    refine ok_iconst 1 dJ_coder_13 (by decide) ?_
    refine ok_wk [none] trivial ?_
    exact k7 (1) (by simp only [if_pos z2])
  · replace hs := hs.2 z2
    refine ok_aload_n 0 dJ_coder_6 rfl rfl ?_
    obtain ⟨c3, hs⟩  := hs
    obtain ⟨c4, hs⟩  := hs
    refine ok_sget "java/lang/String" "coder" "B" dJ_coder_7 (c1.cod c3 c4) gJ0_15 ?_
    refine ok_goto 14 dJ_coder_10 (by decide) ?_
    refine ok_wk [none] trivial ?_
    exact k7 (k_cod) (by simp only [if_neg z2])

set_option maxRecDepth 100000 in
set_option maxHeartbeats 4000000 in
theorem sJ_charAt_0 {G : o_G} {d : Nat} {P : o_P} {i : o_I} {r : o_R} (v0 : Nat) (v1 : Int32)
    (h : o_cst G ∧ 2 ≤ v0 ∧ v0 ≤ 5 ∧ SpI G d mJ_isLatin1 [.ref (o_ad G v0)] (fun x4 i4 => ((x4 = 0 → False) ∧ (¬ x4 = 0 → SpI G d mJ_latinCharAt [.ref (o_ad G (v0 + 8)), .int v1] (fun x6 i6 => narrow .char (.int x6) = .int x6 ∧ P (some (.int x6)) i6 r) i4 r))) i r) :
    Ok G (d + 1) mJ_charAt P 0 [some (.ref (o_ad G v0)), some (.int v1)] [] i r := by
  refine ok_aload_n 0 dJ_charAt_0 rfl rfl ?_
  obtain ⟨c1, h⟩ := h
  obtain ⟨c2, h⟩ := h
  obtain ⟨c3, h⟩ := h
  refine ok_cTi (rest := []) o_rc c1 c2 c3 [] dJ_charAt_1 kJ0_492 rfl rfl (Nat.le_of_ble_eq_true rfl) h (fun x4 i4 h => ?_)
  refine ok_if_eq 16 dJ_charAt_4 (by decide) (fun z5 => ?_) (fun z5 => ?_)
  · replace h := h.1 z5
    refine ok_aload_n 0 dJ_charAt_16 rfl rfl ?_
    refine ok_sget "java/lang/String" "value" "[B" dJ_charAt_17 (c1.val c2 c3) gJ0_9 ?_
    refine ok_iload_n 1 dJ_charAt_20 rfl rfl ?_
    exact h.elim
  · replace h := h.2 z5
    refine ok_aload_n 0 dJ_charAt_7 rfl rfl ?_
    refine ok_sget "java/lang/String" "value" "[B" dJ_charAt_8 (c1.val c2 c3) gJ0_9 ?_
    refine ok_iload_n 1 dJ_charAt_11 rfl rfl ?_
    refine ok_cSi (rest := []) o_rc [.ref (o_ad G (v0 + 8)), .int v1] dJ_charAt_12 kJ0_495 rfl rfl (Nat.le_of_ble_eq_true rfl) h (fun x6 i6 h => ?_)
    obtain ⟨c7, h⟩ := h
    exact ok_iret .char dJ_charAt_15 rfl c7 h

set_option maxRecDepth 100000 in
set_option maxHeartbeats 4000000 in
theorem sJ_indexOf_0 {G : o_G} {d : Nat} {P : o_P} {i : o_I} {r : o_R} (v0 : Nat) (v1 : Int32)
    (h : o_cst G ∧ 2 ≤ v0 ∧ v0 ≤ 5 ∧ SpI G d mJ_indexOfFrom [.ref (o_ad G v0), .int v1, .int 0] (fun x4 i4 => P (some (.int x4)) i4 r) i r) :
    Ok G (d + 1) mJ_indexOf P 0 [some (.ref (o_ad G v0)), some (.int v1)] [] i r := by
  refine ok_aload_n 0 dJ_indexOf_0 rfl rfl ?_
  refine ok_iload_n 1 dJ_indexOf_1 rfl rfl ?_
  refine ok_iconst 0 dJ_indexOf_2 (by decide) ?_
  obtain ⟨c1, h⟩ := h
  obtain ⟨c2, h⟩ := h
  obtain ⟨c3, h⟩ := h
  refine ok_cTi (rest := []) o_rc c1 c2 c3 [.int v1, .int 0] dJ_indexOf_3 kJ0_633 rfl rfl (Nat.le_of_ble_eq_true rfl) h (fun x4 i4 h => ?_)
  exact ok_iret .int dJ_indexOf_6 rfl rfl h

set_option maxRecDepth 100000 in
set_option maxHeartbeats 4000000 in
theorem sJ_indexOfFrom_0 {G : o_G} {d : Nat} {P : o_P} {i : o_I} {r : o_R} (v0 : Nat) (v1 : Int32) (v2 : Int32)
    (h : o_cst G ∧ 2 ≤ v0 ∧ v0 ≤ 5 ∧ SpI G d mJ_isLatin1 [.ref (o_ad G v0)] (fun x4 i4 => ((x4 = 0 → SpI G d mJ_length [.ref (o_ad G v0)] (fun x6 i6 => False) i4 r) ∧ (¬ x4 = 0 → SpI G d mJ_length [.ref (o_ad G v0)] (fun x7 i7 => SpI G d mJ_latinIndexOf [.ref (o_ad G (v0 + 8)), .int v1, .int v2, .int x7] (fun x8 i8 => P (some (.int x8)) i8 r) i7 r) i4 r))) i r) :
    Ok G (d + 1) mJ_indexOfFrom P 0 [some (.ref (o_ad G v0)), some (.int v1), some (.int v2)] [] i r := by
  refine ok_aload_n 0 dJ_indexOfFrom_0 rfl rfl ?_
  obtain ⟨c1, h⟩ := h
  obtain ⟨c2, h⟩ := h
  obtain ⟨c3, h⟩ := h
  refine ok_cTi (rest := []) o_rc c1 c2 c3 [] dJ_indexOfFrom_1 kJ0_492 rfl rfl (Nat.le_of_ble_eq_true rfl) h (fun x4 i4 h => ?_)
  refine ok_if_eq 23 dJ_indexOfFrom_4 (by decide) (fun z5 => ?_) (fun z5 => ?_)
  · replace h := h.1 z5
    refine ok_aload_n 0 dJ_indexOfFrom_23 rfl rfl ?_
    refine ok_sget "java/lang/String" "value" "[B" dJ_indexOfFrom_24 (c1.val c2 c3) gJ0_9 ?_
    refine ok_iload_n 1 dJ_indexOfFrom_27 rfl rfl ?_
    refine ok_iload_n 2 dJ_indexOfFrom_28 rfl rfl ?_
    refine ok_aload_n 0 dJ_indexOfFrom_29 rfl rfl ?_
    refine ok_cTi (rest := [.int v2, .int v1, .ref (o_ad G (v0 + 8))]) o_rc c1 c2 c3 [] dJ_indexOfFrom_30 kJ0_505 rfl rfl (Nat.le_of_ble_eq_true rfl) h (fun x6 i6 h => ?_)
    exact h.elim
  · replace h := h.2 z5
    refine ok_aload_n 0 dJ_indexOfFrom_7 rfl rfl ?_
    refine ok_sget "java/lang/String" "value" "[B" dJ_indexOfFrom_8 (c1.val c2 c3) gJ0_9 ?_
    refine ok_iload_n 1 dJ_indexOfFrom_11 rfl rfl ?_
    refine ok_iload_n 2 dJ_indexOfFrom_12 rfl rfl ?_
    refine ok_aload_n 0 dJ_indexOfFrom_13 rfl rfl ?_
    refine ok_cTi (rest := [.int v2, .int v1, .ref (o_ad G (v0 + 8))]) o_rc c1 c2 c3 [] dJ_indexOfFrom_14 kJ0_505 rfl rfl (Nat.le_of_ble_eq_true rfl) h (fun x7 i7 h => ?_)
    refine ok_cSi (rest := []) o_rc [.ref (o_ad G (v0 + 8)), .int v1, .int v2, .int x7] dJ_indexOfFrom_17 kJ0_637 rfl rfl (Nat.le_of_ble_eq_true rfl) h (fun x8 i8 h => ?_)
    refine ok_goto 36 dJ_indexOfFrom_20 (by decide) ?_
    exact ok_iret .int dJ_indexOfFrom_36 rfl rfl h

set_option maxRecDepth 100000 in
set_option maxHeartbeats 4000000 in
theorem sJ_checkIndex_0 {G : o_G} {d : Nat} {P : o_P} {i : o_I} {r : o_R} (v0 : Int32) (v1 : Int32)
    (h : o_cst G ∧ ∀ w1 : Value, (w1 = .null ∨ ∃ t : Nat, w1 = .ref t) → SpI G d mJ_preCheck [.int v0, .int v1, w1] (fun x3 i3 => P none i3 r) i r) :
    Ok G (d + 1) mJ_checkIndex P 0 [some (.int v0), some (.int v1)] [] i r := by
  refine ok_iload_n 0 dJ_checkIndex_0 rfl rfl ?_
  refine ok_iload_n 1 dJ_checkIndex_1 rfl rfl ?_
  obtain ⟨c2, h⟩ := h
  refine ok_getq "jdk/internal/util/Preconditions" "SIOOBE_FORMATTER" "Ljava/util/function/BiFunction;" dJ_checkIndex_2 (fun U hU => (c2 U hU).2.2.2.2) gJ0_1053 (fun w1 ew1 => ?_)
  replace h := h w1 ew1
  refine ok_cSi (rest := []) o_rc [.int v0, .int v1, w1] dJ_checkIndex_5 kJ0_1059 rfl rfl (Nat.le_of_ble_eq_true rfl) h (fun x3 i3 h => ?_)
  refine ok_pop dJ_checkIndex_8 rfl ?_
  exact ok_vret dJ_checkIndex_9 rfl h

set_option maxRecDepth 100000 in
set_option maxHeartbeats 4000000 in
theorem sJ_latinIndexOf_0 {G : o_G} {d : Nat} {P : o_P} {i : o_I} {r : o_R} (v0 : Nat) (v1 : Int32) (v2 : Int32) (v3 : Int32)
    (h : SpI G d mJ_canEncode [.int v1] (fun x1 i1 => ((¬ x1 = 0 → ∀ x3 : Int32, x3 = (if v2 < 0 then 0 else v2) → o_cst G ∧ 10 ≤ v0 ∧ v0 ≤ 13 ∧ ∀ x7 : Int32, x7 = (if (nI (k_sl.getD (v0 - 10) 0)) < v3 then (nI (k_sl.getD (v0 - 10) 0)) else v3) → ((x3 < x7 → SpI G d mJ_indexOfChar [.ref (o_ad G v0), .int v1, .int x3, .int x7] (fun x9 i9 => P (some (.int x9)) i9 r) i1 r) ∧ (¬ x3 < x7 → P (some (.int (-1))) i1 r))) ∧ (x1 = 0 → P (some (.int (-1))) i1 r))) i r) :
    Ok G (d + 1) mJ_latinIndexOf P 0 [some (.ref (o_ad G v0)), some (.int v1), some (.int v2), some (.int v3)] [] i r := by
  refine ok_iload_n 1 dJ_latinIndexOf_0 rfl rfl ?_
  refine ok_cSi (rest := []) o_rc [.int v1] dJ_latinIndexOf_1 kJ1_88 rfl rfl (Nat.le_of_ble_eq_true rfl) h (fun x1 i1 h => ?_)
  refine ok_if_ne 9 dJ_latinIndexOf_4 (by decide) (fun z2 => ?_) (fun z2 => ?_)
  · replace h := h.1 z2
    refine ok_iload_n 2 dJ_latinIndexOf_9 rfl rfl ?_
    refine ok_iconst 0 dJ_latinIndexOf_10 (by decide) ?_
    refine ok_max o_rc dJ_latinIndexOf_11 lJ1_92 w_max_2 w_math w_max_4 (Nat.le_of_ble_eq_true rfl) ?_
    refine ok_topi (fun x3 ex3 => ?_)
    replace h := h x3 ex3
    refine ok_istore_n 2 dJ_latinIndexOf_14 rfl (by decide) [some (.ref (o_ad G v0)), some (.int v1), some (.int x3), some (.int v3)] rfl ?_
    refine ok_iload_n 3 dJ_latinIndexOf_15 rfl rfl ?_
    refine ok_aload_n 0 dJ_latinIndexOf_16 rfl rfl ?_
    obtain ⟨c4, h⟩ := h
    obtain ⟨c5, h⟩ := h
    obtain ⟨c6, h⟩ := h
    refine ok_tlen dJ_latinIndexOf_17 (c4.byt c5 c6) ?_
    refine ok_min o_rc dJ_latinIndexOf_18 lJ1_38 w_min_2 w_math w_min_4 (Nat.le_of_ble_eq_true rfl) ?_
    refine ok_topi (fun x7 ex7 => ?_)
    replace h := h x7 ex7
    refine ok_istore_n 3 dJ_latinIndexOf_21 rfl (by decide) [some (.ref (o_ad G v0)), some (.int v1), some (.int x3), some (.int x7)] rfl ?_
    refine ok_iload_n 2 dJ_latinIndexOf_22 rfl rfl ?_
    refine ok_iload_n 3 dJ_latinIndexOf_23 rfl rfl ?_
    refine ok_ic_lt 29 dJ_latinIndexOf_24 (by decide) (fun z8 => ?_) (fun z8 => ?_)
    · replace h := h.1 z8
      refine ok_aload_n 0 dJ_latinIndexOf_29 rfl rfl ?_
      refine ok_iload_n 1 dJ_latinIndexOf_30 rfl rfl ?_
      refine ok_iload_n 2 dJ_latinIndexOf_31 rfl rfl ?_
      refine ok_iload_n 3 dJ_latinIndexOf_32 rfl rfl ?_
      refine ok_cSi (rest := []) o_rc [.ref (o_ad G v0), .int v1, .int x3, .int x7] dJ_latinIndexOf_33 kJ1_95 rfl rfl (Nat.le_of_ble_eq_true rfl) h (fun x9 i9 h => ?_)
      exact ok_iret .int dJ_latinIndexOf_36 rfl rfl h
    · replace h := h.2 z8
      refine ok_iconst (-1) dJ_latinIndexOf_27 (by decide) ?_
      exact ok_iret .int dJ_latinIndexOf_28 rfl rfl h
  · replace h := h.2 z2
    refine ok_iconst (-1) dJ_latinIndexOf_7 (by decide) ?_
    exact ok_iret .int dJ_latinIndexOf_8 rfl rfl h

set_option maxRecDepth 100000 in
set_option maxHeartbeats 4000000 in
theorem sJ_canEncode_0 {G : o_G} {d : Nat} {P : o_P} {i : o_I} {r : o_R} (v0 : Int32)
    (h : (∀ x3 : Int32, x3 = (if v0 < 0 then 0 else (if 255 < v0 then 0 else 1)) → (x3 = 0 ∨ x3 = 1) ∧ P (some (.int x3)) i r)) :
    Ok G (d + 1) mJ_canEncode P 0 [some (.int v0)] [] i r := by
  refine ok_iload_n 0 dJ_canEncode_0 rfl rfl ?_
  have k5 : ∀ x3 : Int32, x3 = (if v0 < 0 then 0 else (if 255 < v0 then 0 else 1)) → Ok G (d + 1) mJ_canEncode P 16 [none] [.int x3] i r := by
    intro x3 ex3
    replace h := h x3 ex3
    obtain ⟨c4, h⟩ := h
    exact ok_iret .boolean dJ_canEncode_16 rfl (o_bool c4).1 h
  clear h
  refine ok_if_lt 15 dJ_canEncode_1 (by decide) (fun z1 => ?_) (fun z1 => ?_)
  · refine ok_iconst 0 dJ_canEncode_15 (by decide) ?_
    refine ok_wk [none] trivial ?_
    exact k5 (0) (by simp only [if_pos z1])
  · refine ok_iload_n 0 dJ_canEncode_4 rfl rfl ?_
    refine ok_sipush 255 dJ_canEncode_5 (by decide) ?_
    refine ok_ic_gt 15 dJ_canEncode_8 (by decide) (fun z2 => ?_) (fun z2 => ?_)
    · refine ok_iconst 0 dJ_canEncode_15 (by decide) ?_
      refine ok_wk [none] trivial ?_
      exact k5 (0) (by simp only [if_neg z1, if_pos z2])
    · refine ok_iconst 1 dJ_canEncode_11 (by decide) ?_
      refine ok_goto 16 dJ_canEncode_12 (by decide) ?_
      refine ok_wk [none] trivial ?_
      exact k5 (1) (by simp only [if_neg z1, if_neg z2])

set_option maxRecDepth 100000 in
set_option maxHeartbeats 4000000 in
theorem sJ_indexOfChar_0 {G : o_G} {d : Nat} {P : o_P} {i : o_I} {r : o_R} (v0 : Nat) (v1 : Int32) (v2 : Int32) (v3 : Int32)
    (h : ∀ x1 : Int32, x1 = (v1 : Int32).toInt8.toInt32 → Ok G (d + 1) mJ_indexOfChar P 7 [some (.ref (o_ad G v0)), none, none, some (.int v3), some (.int x1), some (.int v2)] [] i r) :
    Ok G (d + 1) mJ_indexOfChar P 0 [some (.ref (o_ad G v0)), some (.int v1), some (.int v2), some (.int v3), none, none] [] i r := by
  refine ok_iload_n 1 dJ_indexOfChar_0 rfl rfl ?_
  refine ok_i2b dJ_indexOfChar_1 ?_
  refine ok_topi (fun x1 ex1 => ?_)
  replace h := h x1 ex1
  refine ok_istore dJ_indexOfChar_2 (by decide) [some (.ref (o_ad G v0)), some (.int v1), some (.int v2), some (.int v3), some (.int x1), none] rfl ?_
  refine ok_iload_n 2 dJ_indexOfChar_4 rfl rfl ?_
  refine ok_istore dJ_indexOfChar_5 (by decide) [some (.ref (o_ad G v0)), some (.int v1), some (.int v2), some (.int v3), some (.int x1), some (.int v2)] rfl ?_
  refine ok_wk [some (.ref (o_ad G v0)), none, none, some (.int v3), some (.int x1), some (.int v2)] ⟨rfl, rfl, rfl, rfl, trivial⟩ ?_
  exact h

set_option maxRecDepth 100000 in
set_option maxHeartbeats 4000000 in
theorem sJ_indexOfChar_7 {G : o_G} {d : Nat} {P : o_P} {i : o_I} {r : o_R} (v0 : Nat) (v3 : Int32) (v4 : Int32) (v5 : Int32)
    (h : ((v3 ≤ v5 → P (some (.int (-1))) i r) ∧ (¬ v3 ≤ v5 → o_cst G ∧ 10 ≤ v0 ∧ v0 ≤ 13 ∧ vp_in v5 (k_sl.getD (v0 - 10) 0) ∧ ((¬ ((k_sb.getD (v0 - 10) []).getD v5.toNatClampNeg 0) = v4 → ∀ x7 : Int32, x7 = v5 + 1 → Ok G (d + 1) mJ_indexOfChar P 7 [some (.ref (o_ad G v0)), none, none, some (.int v3), some (.int v4), some (.int x7)] [] i r) ∧ (((k_sb.getD (v0 - 10) []).getD v5.toNatClampNeg 0) = v4 → P (some (.int v5)) i r))))) :
    Ok G (d + 1) mJ_indexOfChar P 7 [some (.ref (o_ad G v0)), none, none, some (.int v3), some (.int v4), some (.int v5)] [] i r := by
  refine ok_iload dJ_indexOfChar_7 rfl ?_
  refine ok_iload_n 3 dJ_indexOfChar_9 rfl rfl ?_
  refine ok_ic_ge 31 dJ_indexOfChar_10 (by decide) (fun z1 => ?_) (fun z1 => ?_)
  · replace h := h.1 z1
    refine ok_iconst (-1) dJ_indexOfChar_31 (by decide) ?_
    exact ok_iret .int dJ_indexOfChar_32 rfl rfl h
  · replace h := h.2 z1
    refine ok_aload_n 0 dJ_indexOfChar_13 rfl rfl ?_
    refine ok_iload dJ_indexOfChar_14 rfl ?_
    obtain ⟨c2, h⟩ := h
    obtain ⟨c3, h⟩ := h
    obtain ⟨c4, h⟩ := h
    obtain ⟨c5, h⟩ := h
    refine ok_tbl dJ_indexOfChar_16 (c2.byt c3 c4) c5 ?_
    refine ok_iload dJ_indexOfChar_17 rfl ?_
    refine ok_ic_ne 25 dJ_indexOfChar_19 (by decide) (fun z6 => ?_) (fun z6 => ?_)
    · replace h := h.1 z6
      refine ok_eqi (v5 + 1) (fun x7 ex7 => ?_)
      replace h := h x7 ex7
      refine ok_iinc 1 x7 dJ_indexOfChar_25 rfl (by decide) ex7 (by decide) [some (.ref (o_ad G v0)), none, none, some (.int v3), some (.int v4), some (.int x7)] rfl ?_
      refine ok_goto 7 dJ_indexOfChar_28 (by decide) ?_
      exact h
    · replace h := h.2 z6
      refine ok_iload dJ_indexOfChar_22 rfl ?_
      exact ok_iret .int dJ_indexOfChar_24 rfl rfl h

set_option maxRecDepth 100000 in
set_option maxHeartbeats 4000000 in
theorem sJ_latinCharAt_0 {G : o_G} {d : Nat} {P : o_P} {i : o_I} {r : o_R} (v0 : Nat) (v1 : Int32)
    (h : o_cst G ∧ 10 ≤ v0 ∧ v0 ≤ 13 ∧ SpV G d mJ_checkIndex [.int v1, .int (nI (k_sl.getD (v0 - 10) 0))] (fun i4 => vp_in v1 (k_sl.getD (v0 - 10) 0) ∧ narrow .char (.int (((((k_sb.getD (v0 - 10) []).getD v1.toNatClampNeg 0) &&& 255) : Int32).toUInt32 % 65536).toInt32) = .int (((((k_sb.getD (v0 - 10) []).getD v1.toNatClampNeg 0) &&& 255) : Int32).toUInt32 % 65536).toInt32 ∧ P (some (.int (((((k_sb.getD (v0 - 10) []).getD v1.toNatClampNeg 0) &&& 255) : Int32).toUInt32 % 65536).toInt32)) i4 r) i r) :
    Ok G (d + 1) mJ_latinCharAt P 0 [some (.ref (o_ad G v0)), some (.int v1)] [] i r := by
  refine ok_iload_n 1 dJ_latinCharAt_0 rfl rfl ?_
  refine ok_aload_n 0 dJ_latinCharAt_1 rfl rfl ?_
  obtain ⟨c1, h⟩ := h
  obtain ⟨c2, h⟩ := h
  obtain ⟨c3, h⟩ := h
  refine ok_tlen dJ_latinCharAt_2 (c1.byt c2 c3) ?_
  refine ok_cSv (rest := []) o_rc [.int v1, .int (nI (k_sl.getD (v0 - 10) 0))] dJ_latinCharAt_3 kJ1_9 rfl rfl (Nat.le_of_ble_eq_true rfl) h (fun i4 h => ?_)
  refine ok_aload_n 0 dJ_latinCharAt_6 rfl rfl ?_
  refine ok_iload_n 1 dJ_latinCharAt_7 rfl rfl ?_
  obtain ⟨c5, h⟩ := h
  refine ok_tbl dJ_latinCharAt_8 (c1.byt c2 c3) c5 ?_
  refine ok_sipush 255 dJ_latinCharAt_9 (by decide) ?_
  refine ok_iand dJ_latinCharAt_12 ?_
  refine ok_i2c dJ_latinCharAt_13 ?_
  obtain ⟨c6, h⟩ := h
  exact ok_iret .char dJ_latinCharAt_14 rfl c6 h

set_option maxRecDepth 100000 in
set_option maxHeartbeats 4000000 in
theorem sJ_preCheck_0 {G : o_G} {d : Nat} {P : o_P} {i : o_I} {r : o_R} (v0 : Int32) (v1 : Int32) (v2 : Value)
    (h : ((v0 < 0 → False) ∧ (¬ v0 < 0 → ((v0 < v1 → P (some (.int v0)) i r) ∧ (¬ v0 < v1 → False))))) :
    Ok G (d + 1) mJ_preCheck P 0 [some (.int v0), some (.int v1), some v2] [] i r := by
  refine ok_iload_n 0 dJ_preCheck_0 rfl rfl ?_
  refine ok_if_lt 9 dJ_preCheck_1 (by decide) (fun z1 => ?_) (fun z1 => ?_)
  · replace h := h.1 z1
    exact h.elim
  · replace h := h.2 z1
    refine ok_iload_n 0 dJ_preCheck_4 rfl rfl ?_
    refine ok_iload_n 1 dJ_preCheck_5 rfl rfl ?_
    refine ok_ic_lt 16 dJ_preCheck_6 (by decide) (fun z2 => ?_) (fun z2 => ?_)
    · replace h := h.1 z2
      refine ok_iload_n 0 dJ_preCheck_16 rfl rfl ?_
      exact ok_iret .int dJ_preCheck_17 rfl rfl h
    · replace h := h.2 z2
      exact h.elim

set_option maxRecDepth 100000 in
set_option maxHeartbeats 4000000 in
theorem sX2_weigh_0 {G : o_G} {d : Nat} {P : o_P} {i : o_I} {r : o_R} (v0 : Nat) (v1 : Nat) (v2 : Int32)
    (h : o_O G v1 7 ∧ o_O G v0 2 ∧ ∀ i3 : o_I, i3 = o_up i v0 6 (i v1 2) → ∀ i4 : o_I, i4 = o_up i3 v0 2 0 → SpV G d mX2_addAllele [.ref v0, .ref v1, .int v2] (fun i5 => SpV G d mX2_addMostSeen [.ref v0, .ref v1] (fun i6 => SpV G d mX2_addMostSeen [.ref v0, .ref v1] (fun i7 => ∀ i8 : o_I, i8 = o_up i7 v0 4 (((i7 v0 2) * ((i7 v0 2) + 1)) / 2) → ∀ i9 : o_I, i9 = o_up i8 v0 5 0 → Ok G (d + 1) mX2_weigh P 53 [some (.ref v0), some (.ref v1), none, some (.int 0)] [] i9 r) i6 r) i5 r) i4 r) :
    Ok G (d + 1) mX2_weigh P 0 [some (.ref v0), some (.ref v1), some (.int v2), none] [] i r := by
  refine ok_aload_n 0 dX2_weigh_0 rfl rfl ?_
  refine ok_aload_n 1 dX2_weigh_1 rfl rfl ?_
  obtain ⟨c1, h⟩ := h
  refine ok_geti 7 2 dX2_weigh_2 f2_37 rfl c1 ?_
  obtain ⟨c2, h⟩ := h
  refine ok_puti 2 6 .int dX2_weigh_5 f2_34 rfl rfl (by decide +kernel) rfl rfl c2 ?_
  refine ok_nmi (fun i3 ei3 => ?_)
  replace h := h i3 ei3
  refine ok_aload_n 0 dX2_weigh_8 rfl rfl ?_
  refine ok_iconst 0 dX2_weigh_9 (by decide) ?_
  refine ok_puti 2 2 .int dX2_weigh_10 f2_18 rfl rfl (by decide +kernel) rfl rfl c2 ?_
  refine ok_nmi (fun i4 ei4 => ?_)
  replace h := h i4 ei4
  refine ok_aload_n 0 dX2_weigh_13 rfl rfl ?_
  refine ok_aload_n 1 dX2_weigh_14 rfl rfl ?_
  refine ok_iload_n 2 dX2_weigh_15 rfl rfl ?_
  refine ok_cVv (rest := []) o_rc 2 [.ref v1, .int v2] dX2_weigh_16 k2_42 c2 rfl rfl (Nat.le_of_ble_eq_true rfl) h (fun i5 h => ?_)
  refine ok_aload_n 0 dX2_weigh_19 rfl rfl ?_
  refine ok_aload_n 1 dX2_weigh_20 rfl rfl ?_
  refine ok_cVv (rest := []) o_rc 2 [.ref v1] dX2_weigh_21 k2_46 c2 rfl rfl (Nat.le_of_ble_eq_true rfl) h (fun i6 h => ?_)
  refine ok_aload_n 0 dX2_weigh_24 rfl rfl ?_
  refine ok_aload_n 1 dX2_weigh_25 rfl rfl ?_
  refine ok_cVv (rest := []) o_rc 2 [.ref v1] dX2_weigh_26 k2_46 c2 rfl rfl (Nat.le_of_ble_eq_true rfl) h (fun i7 h => ?_)
  refine ok_aload_n 0 dX2_weigh_29 rfl rfl ?_
  refine ok_aload_n 0 dX2_weigh_30 rfl rfl ?_
  refine ok_geti 2 2 dX2_weigh_31 f2_18 rfl c2 ?_
  refine ok_aload_n 0 dX2_weigh_34 rfl rfl ?_
  refine ok_geti 2 2 dX2_weigh_35 f2_18 rfl c2 ?_
  refine ok_iconst 1 dX2_weigh_38 (by decide) ?_
  refine ok_iadd dX2_weigh_39 ?_
  refine ok_imul dX2_weigh_40 ?_
  refine ok_iconst 2 dX2_weigh_41 (by decide) ?_
  refine ok_idiv dX2_weigh_42 (by decide) ?_
  refine ok_puti 2 4 .int dX2_weigh_43 f2_28 rfl rfl (by decide +kernel) rfl rfl c2 ?_
  refine ok_nmi (fun i8 ei8 => ?_)
  replace h := h i8 ei8
  refine ok_aload_n 0 dX2_weigh_46 rfl rfl ?_
  refine ok_iconst 0 dX2_weigh_47 (by decide) ?_
  refine ok_puti 2 5 .int dX2_weigh_48 f2_31 rfl rfl (by decide +kernel) rfl rfl c2 ?_
  refine ok_nmi (fun i9 ei9 => ?_)
  replace h := h i9 ei9
  refine ok_iconst 0 dX2_weigh_51 (by decide) ?_
  refine ok_istore_n 3 dX2_weigh_52 rfl (by decide) [some (.ref v0), some (.ref v1), some (.int v2), some (.int 0)] rfl ?_
  refine ok_wk [some (.ref v0), some (.ref v1), none, some (.int 0)] ⟨rfl, rfl, rfl, trivial⟩ ?_
  exact h

set_option maxRecDepth 100000 in
set_option maxHeartbeats 4000000 in
theorem sX2_weigh_53 {G : o_G} {d : Nat} {P : o_P} {i : o_I} {r : o_R} (v0 : Nat) (v1 : Nat) (v3 : Int32)
    (h : o_O G v0 2 ∧ (((i v0 4) ≤ v3 → P none i r) ∧ (¬ (i v0 4) ≤ v3 → o_cst G ∧ vp_in v3 6 ∧ SpI G d mX2_penalty [.ref v0, .ref v1, .int (o_tb 0 v3.toNatClampNeg), .int (o_tb 1 v3.toNatClampNeg)] (fun x5 i5 => o_Y G (r v0 3) 1 ∧ vp_in v3 (o_len G (r v0 3)) ∧ ∀ i8 : o_I, i8 = o_up i5 (r v0 3) v3.toNatClampNeg x5 → vp_in (i8 v0 5) (o_len G (r v0 3)) ∧ (((i8 (r v0 3) (i8 v0 5).toNatClampNeg) ≤ (i8 (r v0 3) v3.toNatClampNeg) → ∀ x11 : Int32, x11 = v3 + 1 → Ok G (d + 1) mX2_weigh P 53 [some (.ref v0), some (.ref v1), none, some (.int x11)] [] i8 r) ∧ (¬ (i8 (r v0 3) (i8 v0 5).toNatClampNeg) ≤ (i8 (r v0 3) v3.toNatClampNeg) → ∀ i12 : o_I, i12 = o_up i8 v0 5 v3 → ∀ x13 : Int32, x13 = v3 + 1 → Ok G (d + 1) mX2_weigh P 53 [some (.ref v0), some (.ref v1), none, some (.int x13)] [] i12 r))) i r))) :
    Ok G (d + 1) mX2_weigh P 53 [some (.ref v0), some (.ref v1), none, some (.int v3)] [] i r := by
  refine ok_iload_n 3 dX2_weigh_53 rfl rfl ?_
  refine ok_aload_n 0 dX2_weigh_54 rfl rfl ?_
  obtain ⟨c1, h⟩ := h
  refine ok_geti 2 4 dX2_weigh_55 f2_28 rfl c1 ?_
  refine ok_ic_ge 111 dX2_weigh_58 (by decide) (fun z2 => ?_) (fun z2 => ?_)
  · replace h := h.1 z2
    exact ok_vret dX2_weigh_111 rfl h
  · replace h := h.2 z2
    refine ok_aload_n 0 dX2_weigh_61 rfl rfl ?_
    refine ok_getr 2 3 dX2_weigh_62 f2_25 rfl c1 ?_
    refine ok_iload_n 3 dX2_weigh_65 rfl rfl ?_
    refine ok_aload_n 0 dX2_weigh_66 rfl rfl ?_
    refine ok_aload_n 1 dX2_weigh_67 rfl rfl ?_
    obtain ⟨c3, h⟩ := h
    refine ok_gets "ReadCaller$Judge" "FIRST_OF_PAIR" "[I" dX2_weigh_68 (fun U hU => (c3 U hU).1.1) g2_22 ?_
    refine ok_iload_n 3 dX2_weigh_71 rfl rfl ?_
    obtain ⟨c4, h⟩ := h
    refine ok_ti dX2_weigh_72 (c3.tab (by decide)) c4 ?_
    refine ok_gets "ReadCaller$Judge" "SECOND_OF_PAIR" "[I" dX2_weigh_73 (fun U hU => (c3 U hU).1.2.1) g2_50 ?_
    refine ok_iload_n 3 dX2_weigh_76 rfl rfl ?_
    refine ok_ti dX2_weigh_77 (c3.tab (by decide)) c4 ?_
    refine ok_cVi (rest := [.int v3, .ref (r v0 3)]) o_rc 2 [.ref v1, .int (o_tb 0 v3.toNatClampNeg), .int (o_tb 1 v3.toNatClampNeg)] dX2_weigh_78 k2_53 c1 rfl rfl (Nat.le_of_ble_eq_true rfl) h (fun x5 i5 h => ?_)
    obtain ⟨c6, h⟩ := h
    obtain ⟨c7, h⟩ := h
    refine ok_iast dX2_weigh_81 c6 c7 ?_
    refine ok_nmi (fun i8 ei8 => ?_)
    replace h := h i8 ei8
    refine ok_aload_n 0 dX2_weigh_82 rfl rfl ?_
    refine ok_getr 2 3 dX2_weigh_83 f2_25 rfl c1 ?_
    refine ok_iload_n 3 dX2_weigh_86 rfl rfl ?_
    refine ok_iald dX2_weigh_87 c6 c7 ?_
    refine ok_aload_n 0 dX2_weigh_88 rfl rfl ?_
    refine ok_getr 2 3 dX2_weigh_89 f2_25 rfl c1 ?_
    refine ok_aload_n 0 dX2_weigh_92 rfl rfl ?_
    refine ok_geti 2 5 dX2_weigh_93 f2_31 rfl c1 ?_
    obtain ⟨c9, h⟩ := h
    refine ok_iald dX2_weigh_96 c6 c9 ?_
    refine ok_ic_ge 105 dX2_weigh_97 (by decide) (fun z10 => ?_) (fun z10 => ?_)
    · replace h := h.1 z10
      refine ok_eqi (v3 + 1) (fun x11 ex11 => ?_)
      replace h := h x11 ex11
      refine ok_iinc 1 x11 dX2_weigh_105 rfl (by decide) ex11 (by decide) [some (.ref v0), some (.ref v1), none, some (.int x11)] rfl ?_
      refine ok_goto 53 dX2_weigh_108 (by decide) ?_
      exact h
    · replace h := h.2 z10
      refine ok_aload_n 0 dX2_weigh_100 rfl rfl ?_
      refine ok_iload_n 3 dX2_weigh_101 rfl rfl ?_
      refine ok_puti 2 5 .int dX2_weigh_102 f2_31 rfl rfl (by decide +kernel) rfl rfl c1 ?_
      refine ok_nmi (fun i12 ei12 => ?_)
      replace h := h i12 ei12
      refine ok_eqi (v3 + 1) (fun x13 ex13 => ?_)
      replace h := h x13 ex13
      refine ok_iinc 1 x13 dX2_weigh_105 rfl (by decide) ex13 (by decide) [some (.ref v0), some (.ref v1), none, some (.int x13)] rfl ?_
      refine ok_goto 53 dX2_weigh_108 (by decide) ?_
      exact h

set_option maxRecDepth 100000 in
set_option maxHeartbeats 4000000 in
theorem sX2_firstChosen_0 {G : o_G} {d : Nat} {P : o_P} {i : o_I} {r : o_R} (v0 : Nat)
    (h : o_cst G ∧ o_O G v0 2 ∧ vp_in (i v0 5) 6 ∧ P (some (.int (o_tb 0 (i v0 5).toNatClampNeg))) i r) :
    Ok G (d + 1) mX2_firstChosen P 0 [some (.ref v0)] [] i r := by
  obtain ⟨c1, h⟩ := h
  refine ok_gets "ReadCaller$Judge" "FIRST_OF_PAIR" "[I" dX2_firstChosen_0 (fun U hU => (c1 U hU).1.1) g2_22 ?_
  refine ok_aload_n 0 dX2_firstChosen_3 rfl rfl ?_
  obtain ⟨c2, h⟩ := h
  refine ok_geti 2 5 dX2_firstChosen_4 f2_31 rfl c2 ?_
  obtain ⟨c3, h⟩ := h
  refine ok_ti dX2_firstChosen_7 (c1.tab (by decide)) c3 ?_
  exact ok_iret .int dX2_firstChosen_8 rfl rfl h

set_option maxRecDepth 100000 in
set_option maxHeartbeats 4000000 in
theorem sX2_secondChosen_0 {G : o_G} {d : Nat} {P : o_P} {i : o_I} {r : o_R} (v0 : Nat)
    (h : o_cst G ∧ o_O G v0 2 ∧ vp_in (i v0 5) 6 ∧ P (some (.int (o_tb 1 (i v0 5).toNatClampNeg))) i r) :
    Ok G (d + 1) mX2_secondChosen P 0 [some (.ref v0)] [] i r := by
  obtain ⟨c1, h⟩ := h
  refine ok_gets "ReadCaller$Judge" "SECOND_OF_PAIR" "[I" dX2_secondChosen_0 (fun U hU => (c1 U hU).1.2.1) g2_50 ?_
  refine ok_aload_n 0 dX2_secondChosen_3 rfl rfl ?_
  obtain ⟨c2, h⟩ := h
  refine ok_geti 2 5 dX2_secondChosen_4 f2_31 rfl c2 ?_
  obtain ⟨c3, h⟩ := h
  refine ok_ti dX2_secondChosen_7 (c1.tab (by decide)) c3 ?_
  exact ok_iret .int dX2_secondChosen_8 rfl rfl h

set_option maxRecDepth 100000 in
set_option maxHeartbeats 4000000 in
theorem sX3_isOf_0 {G : o_G} {d : Nat} {P : o_P} {i : o_I} {r : o_R} (v0 : Int32) (v1 : Int32)
    (h : ((¬ v0 = 0 → o_cst G ∧ 2 ≤ 2 ∧ 2 ≤ 5 ∧ SpI G d mJ_indexOf [.ref (o_ad G 2), .int v1] (fun x5 i5 => (∀ x9 : Int32, x9 = (if x5 < 0 then 0 else (if v0 = 2 then 1 else (if 4 ≤ x5 then 0 else 1))) → (x9 = 0 ∨ x9 = 1) ∧ P (some (.int x9)) i5 r)) i r) ∧ (v0 = 0 → (∀ x14 : Int32, x14 = (if v1 < 33 then 0 else (if 126 < v1 then 0 else 1)) → (x14 = 0 ∨ x14 = 1) ∧ P (some (.int x14)) i r)))) :
    Ok G (d + 1) mX3_isOf P 0 [some (.int v0), some (.int v1), none] [] i r := by
  refine ok_iload_n 0 dX3_isOf_0 rfl rfl ?_
  refine ok_if_ne 22 dX3_isOf_1 (by decide) (fun z1 => ?_) (fun z1 => ?_)
  · replace h := h.1 z1
    obtain ⟨c2, h⟩ := h
    refine ok_ldcS _ dX3_isOf_22 (fun U hU => (c2 U hU).2.2.1.1) ?_
    refine ok_iload_n 1 dX3_isOf_24 rfl rfl ?_
    obtain ⟨c3, h⟩ := h
    obtain ⟨c4, h⟩ := h
    refine ok_cTi (rest := []) o_rc c2 c3 c4 [.int v1] dX3_isOf_25 k3_76 rfl rfl (Nat.le_of_ble_eq_true rfl) h (fun x5 i5 h => ?_)
    refine ok_istore_n 2 dX3_isOf_28 rfl (by decide) [some (.int v0), some (.int v1), some (.int x5)] rfl ?_
    refine ok_iload_n 2 dX3_isOf_29 rfl rfl ?_
    have k11 : ∀ x9 : Int32, x9 = (if x5 < 0 then 0 else (if v0 = 2 then 1 else (if 4 ≤ x5 then 0 else 1))) → Ok G (d + 1) mX3_isOf P 48 [none, none, none] [.int x9] i5 r := by
      intro x9 ex9
      replace h := h x9 ex9
      obtain ⟨c10, h⟩ := h
      exact ok_iret .boolean dX3_isOf_48 rfl (o_bool c10).1 h
    clear h
    refine ok_if_lt 47 dX3_isOf_30 (by decide) (fun z6 => ?_) (fun z6 => ?_)
    · refine ok_iconst 0 dX3_isOf_47 (by decide) ?_
      refine ok_wk [none, none, none] trivial ?_
      exact k11 (0) (by simp only [if_pos z6])
    · refine ok_iload_n 0 dX3_isOf_33 rfl rfl ?_
      refine ok_iconst 2 dX3_isOf_34 (by decide) ?_
      refine ok_ic_eq 43 dX3_isOf_35 (by decide) (fun z7 => ?_) (fun z7 => ?_)
      · refine ok_iconst 1 dX3_isOf_43 (by decide) ?_
        refine ok_goto 48 dX3_isOf_44 (by decide) ?_
        refine ok_wk [none, none, none] trivial ?_
        exact k11 (1) (by simp only [if_neg z6, if_pos z7])
      · refine ok_iload_n 2 dX3_isOf_38 rfl rfl ?_
        refine ok_iconst 4 dX3_isOf_39 (by decide) ?_
        refine ok_ic_ge 47 dX3_isOf_40 (by decide) (fun z8 => ?_) (fun z8 => ?_)
        · refine ok_iconst 0 dX3_isOf_47 (by decide) ?_
          refine ok_wk [none, none, none] trivial ?_
          exact k11 (0) (by simp only [if_neg z6, if_neg z7, if_pos z8])
        · refine ok_iconst 1 dX3_isOf_43 (by decide) ?_
          refine ok_goto 48 dX3_isOf_44 (by decide) ?_
          refine ok_wk [none, none, none] trivial ?_
          exact k11 (1) (by simp only [if_neg z6, if_neg z7, if_neg z8])
  · replace h := h.2 z1
    refine ok_iload_n 1 dX3_isOf_4 rfl rfl ?_
    refine ok_bipush 33 dX3_isOf_5 (by decide) ?_
    have k16 : ∀ x14 : Int32, x14 = (if v1 < 33 then 0 else (if 126 < v1 then 0 else 1)) → Ok G (d + 1) mX3_isOf P 21 [none, none, none] [.int x14] i r := by
      intro x14 ex14
      replace h := h x14 ex14
      obtain ⟨c15, h⟩ := h
      exact ok_iret .boolean dX3_isOf_21 rfl (o_bool c15).1 h
    clear h
    refine ok_ic_lt 20 dX3_isOf_7 (by decide) (fun z12 => ?_) (fun z12 => ?_)
    · refine ok_iconst 0 dX3_isOf_20 (by decide) ?_
      refine ok_wk [none, none, none] trivial ?_
      exact k16 (0) (by simp only [if_pos z12])
    · refine ok_iload_n 1 dX3_isOf_10 rfl rfl ?_
      refine ok_bipush 126 dX3_isOf_11 (by decide) ?_
      refine ok_ic_gt 20 dX3_isOf_13 (by decide) (fun z13 => ?_) (fun z13 => ?_)
      · refine ok_iconst 0 dX3_isOf_20 (by decide) ?_
        refine ok_wk [none, none, none] trivial ?_
        exact k16 (0) (by simp only [if_neg z12, if_pos z13])
      · refine ok_iconst 1 dX3_isOf_16 (by decide) ?_
        refine ok_goto 21 dX3_isOf_17 (by decide) ?_
        refine ok_wk [none, none, none] trivial ?_
        exact k16 (1) (by simp only [if_neg z12, if_neg z13])

set_option maxRecDepth 100000 in
set_option maxHeartbeats 4000000 in
theorem sX3_takeLine_0 {G : o_G} {d : Nat} {P : o_P} {i : o_I} {r : o_R} (v0 : Nat) (v1 : Nat)
    (h : o_O G v1 6 ∧ o_O G v0 3 ∧ SpI G d mX3_take [.ref v0, .int 1, .int (48 - (i v1 3)), .int 1] (fun x3 i3 => Ok G (d + 1) mX3_takeLine P 16 [some (.ref v0), some (.ref v1), some (.int x3), some (.int 0)] [] i3 r) i r) :
    Ok G (d + 1) mX3_takeLine P 0 [some (.ref v0), some (.ref v1), none, none] [] i r := by
  refine ok_aload_n 0 dX3_takeLine_0 rfl rfl ?_
  refine ok_iconst 1 dX3_takeLine_1 (by decide) ?_
  refine ok_bipush 48 dX3_takeLine_2 (by decide) ?_
  refine ok_aload_n 1 dX3_takeLine_4 rfl rfl ?_
  obtain ⟨c1, h⟩ := h
  refine ok_geti 6 3 dX3_takeLine_5 f3_47 rfl c1 ?_
  refine ok_isub dX3_takeLine_8 ?_
  refine ok_iconst 1 dX3_takeLine_9 (by decide) ?_
  obtain ⟨c2, h⟩ := h
  refine ok_cVi (rest := []) o_rc 3 [.int 1, .int (48 - (i v1 3)), .int 1] dX3_takeLine_10 k3_30 c2 rfl rfl (Nat.le_of_ble_eq_true rfl) h (fun x3 i3 h => ?_)
  refine ok_istore_n 2 dX3_takeLine_13 rfl (by decide) [some (.ref v0), some (.ref v1), some (.int x3), none] rfl ?_
  refine ok_iconst 0 dX3_takeLine_14 (by decide) ?_
  refine ok_istore_n 3 dX3_takeLine_15 rfl (by decide) [some (.ref v0), some (.ref v1), some (.int x3), some (.int 0)] rfl ?_
  exact h

set_option maxRecDepth 100000 in
set_option maxHeartbeats 4000000 in
theorem sX3_takeLine_16 {G : o_G} {d : Nat} {P : o_P} {i : o_I} {r : o_R} (v0 : Nat) (v1 : Nat) (v2 : Int32) (v3 : Int32)
    (h : ((v2 ≤ v3 → o_O G v0 3 ∧ SpV G d mX3_expect [.ref v0, .int 10] (fun i3 => P none i3 r) i r) ∧ (¬ v2 ≤ v3 → o_O G v1 6 ∧ o_cst G ∧ o_O G v0 3 ∧ SpI G d mX3_taken [.ref v0, .int v2, .int v3] (fun x7 i7 => 2 ≤ 2 ∧ 2 ≤ 5 ∧ SpI G d mJ_indexOf [.ref (o_ad G 2), .int x7] (fun x10 i10 => o_Y G (r v1 2) 1 ∧ vp_in (i v1 3) (o_len G (r v1 2)) ∧ ∀ i13 : o_I, i13 = o_up i10 (r v1 2) (i v1 3).toNatClampNeg x10 → ∀ i14 : o_I, i14 = o_up i13 v1 3 ((i13 v1 3) + 1) → ∀ x15 : Int32, x15 = v3 + 1 → Ok G (d + 1) mX3_takeLine P 16 [some (.ref v0), some (.ref v1), some (.int v2), some (.int x15)] [] i14 r) i7 r) i r))) :
    Ok G (d + 1) mX3_takeLine P 16 [some (.ref v0), some (.ref v1), some (.int v2), some (.int v3)] [] i r := by
  refine ok_iload_n 3 dX3_takeLine_16 rfl rfl ?_
  refine ok_iload_n 2 dX3_takeLine_17 rfl rfl ?_
  refine ok_ic_ge 57 dX3_takeLine_18 (by decide) (fun z1 => ?_) (fun z1 => ?_)
  · replace h := h.1 z1
    refine ok_aload_n 0 dX3_takeLine_57 rfl rfl ?_
    refine ok_bipush 10 dX3_takeLine_58 (by decide) ?_
    obtain ⟨c2, h⟩ := h
    refine ok_cVv (rest := []) o_rc 3 [.int 10] dX3_takeLine_60 k3_26 c2 rfl rfl (Nat.le_of_ble_eq_true rfl) h (fun i3 h => ?_)
    exact ok_vret dX3_takeLine_63 rfl h
  · replace h := h.2 z1
    refine ok_aload_n 1 dX3_takeLine_21 rfl rfl ?_
    obtain ⟨c4, h⟩ := h
    refine ok_getr 6 2 dX3_takeLine_22 f3_70 rfl c4 ?_
    refine ok_aload_n 1 dX3_takeLine_25 rfl rfl ?_
    refine ok_geti 6 3 dX3_takeLine_26 f3_47 rfl c4 ?_
    obtain ⟨c5, h⟩ := h
    refine ok_ldcS _ dX3_takeLine_29 (fun U hU => (c5 U hU).2.2.1.1) ?_
    refine ok_aload_n 0 dX3_takeLine_31 rfl rfl ?_
    refine ok_iload_n 2 dX3_takeLine_32 rfl rfl ?_
    refine ok_iload_n 3 dX3_takeLine_33 rfl rfl ?_
    obtain ⟨c6, h⟩ := h
    refine ok_cVi (rest := [.ref (o_ad G 2), .int (i v1 3), .ref (r v1 2)]) o_rc 3 [.int v2, .int v3] dX3_takeLine_34 k3_43 c6 rfl rfl (Nat.le_of_ble_eq_true rfl) h (fun x7 i7 h => ?_)
    obtain ⟨c8, h⟩ := h
    obtain ⟨c9, h⟩ := h
    refine ok_cTi (rest := [.int (i v1 3), .ref (r v1 2)]) o_rc c5 c8 c9 [.int x7] dX3_takeLine_37 k3_76 rfl rfl (Nat.le_of_ble_eq_true rfl) h (fun x10 i10 h => ?_)
    obtain ⟨c11, h⟩ := h
    obtain ⟨c12, h⟩ := h
    refine ok_iast dX3_takeLine_40 c11 c12 ?_
    refine ok_nmi (fun i13 ei13 => ?_)
    replace h := h i13 ei13
    refine ok_aload_n 1 dX3_takeLine_41 rfl rfl ?_
    refine ok_dup dX3_takeLine_42 rfl ?_
    refine ok_geti 6 3 dX3_takeLine_43 f3_47 rfl c4 ?_
    refine ok_iconst 1 dX3_takeLine_46 (by decide) ?_
    refine ok_iadd dX3_takeLine_47 ?_
    refine ok_puti 6 3 .int dX3_takeLine_48 f3_47 rfl rfl (by decide +kernel) rfl rfl c4 ?_
    refine ok_nmi (fun i14 ei14 => ?_)
    replace h := h i14 ei14
    refine ok_eqi (v3 + 1) (fun x15 ex15 => ?_)
    replace h := h x15 ex15
    refine ok_iinc 1 x15 dX3_takeLine_51 rfl (by decide) ex15 (by decide) [some (.ref v0), some (.ref v1), some (.int v2), some (.int x15)] rfl ?_
    refine ok_goto 16 dX3_takeLine_54 (by decide) ?_
    exact h

set_option maxRecDepth 100000 in
set_option maxHeartbeats 4000000 in
theorem sX3_takeRead_0 {G : o_G} {d : Nat} {P : o_P} {i : o_I} {r : o_R} (v0 : Nat) (v1 : Nat)
    (h : o_O G v0 3 ∧ SpV G d mX3_expect [.ref v0, .int 64] (fun i2 => SpI G d mX3_take [.ref v0, .int 1, .int 8, .int 0] (fun x3 i3 => SpV G d mX3_expect [.ref v0, .int 10] (fun i4 => SpI G d mX3_take [.ref v0, .int 4, .int 16, .int 2] (fun x5 i5 => Ok G (d + 1) mX3_takeRead P 32 [some (.ref v0), some (.ref v1), some (.int x5), some (.int 0)] [] i5 r) i4 r) i3 r) i2 r) i r) :
    Ok G (d + 1) mX3_takeRead P 0 [some (.ref v0), some (.ref v1), none, none] [] i r := by
  refine ok_aload_n 0 dX3_takeRead_0 rfl rfl ?_
  refine ok_bipush 64 dX3_takeRead_1 (by decide) ?_
  obtain ⟨c1, h⟩ := h
  refine ok_cVv (rest := []) o_rc 3 [.int 64] dX3_takeRead_3 k3_26 c1 rfl rfl (Nat.le_of_ble_eq_true rfl) h (fun i2 h => ?_)
  refine ok_aload_n 0 dX3_takeRead_6 rfl rfl ?_
  refine ok_iconst 1 dX3_takeRead_7 (by decide) ?_
  refine ok_bipush 8 dX3_takeRead_8 (by decide) ?_
  refine ok_iconst 0 dX3_takeRead_10 (by decide) ?_
  refine ok_cVi (rest := []) o_rc 3 [.int 1, .int 8, .int 0] dX3_takeRead_11 k3_30 c1 rfl rfl (Nat.le_of_ble_eq_true rfl) h (fun x3 i3 h => ?_)
  refine ok_pop dX3_takeRead_14 rfl ?_
  refine ok_aload_n 0 dX3_takeRead_15 rfl rfl ?_
  refine ok_bipush 10 dX3_takeRead_16 (by decide) ?_
  refine ok_cVv (rest := []) o_rc 3 [.int 10] dX3_takeRead_18 k3_26 c1 rfl rfl (Nat.le_of_ble_eq_true rfl) h (fun i4 h => ?_)
  refine ok_aload_n 0 dX3_takeRead_21 rfl rfl ?_
  refine ok_iconst 4 dX3_takeRead_22 (by decide) ?_
  refine ok_bipush 16 dX3_takeRead_23 (by decide) ?_
  refine ok_iconst 2 dX3_takeRead_25 (by decide) ?_
  refine ok_cVi (rest := []) o_rc 3 [.int 4, .int 16, .int 2] dX3_takeRead_26 k3_30 c1 rfl rfl (Nat.le_of_ble_eq_true rfl) h (fun x5 i5 h => ?_)
  refine ok_istore_n 2 dX3_takeRead_29 rfl (by decide) [some (.ref v0), some (.ref v1), some (.int x5), none] rfl ?_
  refine ok_iconst 0 dX3_takeRead_30 (by decide) ?_
  refine ok_istore_n 3 dX3_takeRead_31 rfl (by decide) [some (.ref v0), some (.ref v1), some (.int x5), some (.int 0)] rfl ?_
  exact h

set_option maxRecDepth 100000 in
set_option maxHeartbeats 4000000 in
theorem sX3_takeRead_32 {G : o_G} {d : Nat} {P : o_P} {i : o_I} {r : o_R} (v0 : Nat) (v1 : Nat) (v2 : Int32) (v3 : Int32)
    (h : ((v2 ≤ v3 → o_O G v1 5 ∧ ∀ i3 : o_I, i3 = o_up i v1 2 v2 → o_O G v0 3 ∧ SpV G d mX3_expect [.ref v0, .int 10] (fun i5 => SpV G d mX3_expect [.ref v0, .int 43] (fun i6 => SpV G d mX3_expect [.ref v0, .int 10] (fun i7 => SpI G d mX3_take [.ref v0, .int v2, .int v2, .int 0] (fun x8 i8 => Ok G (d + 1) mX3_takeRead P 93 [some (.ref v0), some (.ref v1), some (.int x8), some (.int 0)] [] i8 r) i7 r) i6 r) i5 r) i3 r) ∧ (¬ v2 ≤ v3 → o_O G v1 5 ∧ o_cst G ∧ o_O G v0 3 ∧ SpI G d mX3_taken [.ref v0, .int v2, .int v3] (fun x12 i12 => 2 ≤ 2 ∧ 2 ≤ 5 ∧ SpI G d mJ_indexOf [.ref (o_ad G 2), .int x12] (fun x15 i15 => o_Y G (r v1 0) 1 ∧ vp_in v3 (o_len G (r v1 0)) ∧ ∀ i18 : o_I, i18 = o_up i15 (r v1 0) v3.toNatClampNeg x15 → ∀ x19 : Int32, x19 = v3 + 1 → Ok G (d + 1) mX3_takeRead P 32 [some (.ref v0), some (.ref v1), some (.int v2), some (.int x19)] [] i18 r) i12 r) i r))) :
    Ok G (d + 1) mX3_takeRead P 32 [some (.ref v0), some (.ref v1), some (.int v2), some (.int v3)] [] i r := by
  refine ok_iload_n 3 dX3_takeRead_32 rfl rfl ?_
  refine ok_iload_n 2 dX3_takeRead_33 rfl rfl ?_
  refine ok_ic_ge 60 dX3_takeRead_34 (by decide) (fun z1 => ?_) (fun z1 => ?_)
  · replace h := h.1 z1
    refine ok_aload_n 1 dX3_takeRead_60 rfl rfl ?_
    refine ok_iload_n 2 dX3_takeRead_61 rfl rfl ?_
    obtain ⟨c2, h⟩ := h
    refine ok_puti 5 2 .int dX3_takeRead_62 f3_87 rfl rfl (by decide +kernel) rfl rfl c2 ?_
    refine ok_nmi (fun i3 ei3 => ?_)
    replace h := h i3 ei3
    refine ok_aload_n 0 dX3_takeRead_65 rfl rfl ?_
    refine ok_bipush 10 dX3_takeRead_66 (by decide) ?_
    obtain ⟨c4, h⟩ := h
    refine ok_cVv (rest := []) o_rc 3 [.int 10] dX3_takeRead_68 k3_26 c4 rfl rfl (Nat.le_of_ble_eq_true rfl) h (fun i5 h => ?_)
    refine ok_aload_n 0 dX3_takeRead_71 rfl rfl ?_
    refine ok_bipush 43 dX3_takeRead_72 (by decide) ?_
    refine ok_cVv (rest := []) o_rc 3 [.int 43] dX3_takeRead_74 k3_26 c4 rfl rfl (Nat.le_of_ble_eq_true rfl) h (fun i6 h => ?_)
    refine ok_aload_n 0 dX3_takeRead_77 rfl rfl ?_
    refine ok_bipush 10 dX3_takeRead_78 (by decide) ?_
    refine ok_cVv (rest := []) o_rc 3 [.int 10] dX3_takeRead_80 k3_26 c4 rfl rfl (Nat.le_of_ble_eq_true rfl) h (fun i7 h => ?_)
    refine ok_aload_n 0 dX3_takeRead_83 rfl rfl ?_
    refine ok_iload_n 2 dX3_takeRead_84 rfl rfl ?_
    refine ok_iload_n 2 dX3_takeRead_85 rfl rfl ?_
    refine ok_iconst 0 dX3_takeRead_86 (by decide) ?_
    refine ok_cVi (rest := []) o_rc 3 [.int v2, .int v2, .int 0] dX3_takeRead_87 k3_30 c4 rfl rfl (Nat.le_of_ble_eq_true rfl) h (fun x8 i8 h => ?_)
    refine ok_istore_n 2 dX3_takeRead_90 rfl (by decide) [some (.ref v0), some (.ref v1), some (.int x8), some (.int v3)] rfl ?_
    refine ok_iconst 0 dX3_takeRead_91 (by decide) ?_
    refine ok_istore_n 3 dX3_takeRead_92 rfl (by decide) [some (.ref v0), some (.ref v1), some (.int x8), some (.int 0)] rfl ?_
    exact h
  · replace h := h.2 z1
    refine ok_aload_n 1 dX3_takeRead_37 rfl rfl ?_
    obtain ⟨c9, h⟩ := h
    refine ok_getr 5 0 dX3_takeRead_38 f3_82 rfl c9 ?_
    refine ok_iload_n 3 dX3_takeRead_41 rfl rfl ?_
    obtain ⟨c10, h⟩ := h
    refine ok_ldcS _ dX3_takeRead_42 (fun U hU => (c10 U hU).2.2.1.1) ?_
    refine ok_aload_n 0 dX3_takeRead_44 rfl rfl ?_
    refine ok_iload_n 2 dX3_takeRead_45 rfl rfl ?_
    refine ok_iload_n 3 dX3_takeRead_46 rfl rfl ?_
    obtain ⟨c11, h⟩ := h
    refine ok_cVi (rest := [.ref (o_ad G 2), .int v3, .ref (r v1 0)]) o_rc 3 [.int v2, .int v3] dX3_takeRead_47 k3_43 c11 rfl rfl (Nat.le_of_ble_eq_true rfl) h (fun x12 i12 h => ?_)
    obtain ⟨c13, h⟩ := h
    obtain ⟨c14, h⟩ := h
    refine ok_cTi (rest := [.int v3, .ref (r v1 0)]) o_rc c10 c13 c14 [.int x12] dX3_takeRead_50 k3_76 rfl rfl (Nat.le_of_ble_eq_true rfl) h (fun x15 i15 h => ?_)
    obtain ⟨c16, h⟩ := h
    obtain ⟨c17, h⟩ := h
    refine ok_iast dX3_takeRead_53 c16 c17 ?_
    refine ok_nmi (fun i18 ei18 => ?_)
    replace h := h i18 ei18
    refine ok_eqi (v3 + 1) (fun x19 ex19 => ?_)
    replace h := h x19 ex19
    refine ok_iinc 1 x19 dX3_takeRead_54 rfl (by decide) ex19 (by decide) [some (.ref v0), some (.ref v1), some (.int v2), some (.int x19)] rfl ?_
    refine ok_goto 32 dX3_takeRead_57 (by decide) ?_
    exact h

set_option maxRecDepth 100000 in
set_option maxHeartbeats 4000000 in
theorem sX3_takeRead_93 {G : o_G} {d : Nat} {P : o_P} {i : o_I} {r : o_R} (v0 : Nat) (v1 : Nat) (v2 : Int32) (v3 : Int32)
    (h : ((v2 ≤ v3 → o_O G v0 3 ∧ SpV G d mX3_expect [.ref v0, .int 10] (fun i3 => P none i3 r) i r) ∧ (¬ v2 ≤ v3 → o_O G v1 5 ∧ o_O G v0 3 ∧ SpI G d mX3_taken [.ref v0, .int v2, .int v3] (fun x6 i6 => o_Y G (r v1 1) 1 ∧ vp_in v3 (o_len G (r v1 1)) ∧ ∀ i9 : o_I, i9 = o_up i6 (r v1 1) v3.toNatClampNeg (x6 - 33) → ∀ x10 : Int32, x10 = v3 + 1 → Ok G (d + 1) mX3_takeRead P 93 [some (.ref v0), some (.ref v1), some (.int v2), some (.int x10)] [] i9 r) i r))) :
    Ok G (d + 1) mX3_takeRead P 93 [some (.ref v0), some (.ref v1), some (.int v2), some (.int v3)] [] i r := by
  refine ok_iload_n 3 dX3_takeRead_93 rfl rfl ?_
  refine ok_iload_n 2 dX3_takeRead_94 rfl rfl ?_
  refine ok_ic_ge 119 dX3_takeRead_95 (by decide) (fun z1 => ?_) (fun z1 => ?_)
  · replace h := h.1 z1
    refine ok_aload_n 0 dX3_takeRead_119 rfl rfl ?_
    refine ok_bipush 10 dX3_takeRead_120 (by decide) ?_
    obtain ⟨c2, h⟩ := h
    refine ok_cVv (rest := []) o_rc 3 [.int 10] dX3_takeRead_122 k3_26 c2 rfl rfl (Nat.le_of_ble_eq_true rfl) h (fun i3 h => ?_)
    exact ok_vret dX3_takeRead_125 rfl h
  · replace h := h.2 z1
    refine ok_aload_n 1 dX3_takeRead_98 rfl rfl ?_
    obtain ⟨c4, h⟩ := h
    refine ok_getr 5 1 dX3_takeRead_99 f3_90 rfl c4 ?_
    refine ok_iload_n 3 dX3_takeRead_102 rfl rfl ?_
    refine ok_aload_n 0 dX3_takeRead_103 rfl rfl ?_
    refine ok_iload_n 2 dX3_takeRead_104 rfl rfl ?_
    refine ok_iload_n 3 dX3_takeRead_105 rfl rfl ?_
    obtain ⟨c5, h⟩ := h
    refine ok_cVi (rest := [.int v3, .ref (r v1 1)]) o_rc 3 [.int v2, .int v3] dX3_takeRead_106 k3_43 c5 rfl rfl (Nat.le_of_ble_eq_true rfl) h (fun x6 i6 h => ?_)
    refine ok_bipush 33 dX3_takeRead_109 (by decide) ?_
    refine ok_isub dX3_takeRead_111 ?_
    obtain ⟨c7, h⟩ := h
    obtain ⟨c8, h⟩ := h
    refine ok_iast dX3_takeRead_112 c7 c8 ?_
    refine ok_nmi (fun i9 ei9 => ?_)
    replace h := h i9 ei9
    refine ok_eqi (v3 + 1) (fun x10 ex10 => ?_)
    replace h := h x10 ex10
    refine ok_iinc 1 x10 dX3_takeRead_113 rfl (by decide) ex10 (by decide) [some (.ref v0), some (.ref v1), some (.int v2), some (.int x10)] rfl ?_
    refine ok_goto 93 dX3_takeRead_116 (by decide) ?_
    exact h

set_option maxRecDepth 100000 in
set_option maxHeartbeats 4000000 in
theorem sX8_begin_0 {G : o_G} {d : Nat} {P : o_P} {i : o_I} {r : o_R} (v0 : Nat)
    (h : o_O G v0 8 ∧ ∀ i2 : o_I, i2 = o_up i v0 1 0 → o_cst G ∧ SpV G d mX8_writeText [.ref v0, .ref (o_ad G 3)] (fun i4 => P none i4 r) i2 r) :
    Ok G (d + 1) mX8_begin P 0 [some (.ref v0)] [] i r := by
  refine ok_aload_n 0 dX8_begin_0 rfl rfl ?_
  refine ok_iconst 0 dX8_begin_1 (by decide) ?_
  obtain ⟨c1, h⟩ := h
  refine ok_puti 8 1 .int dX8_begin_2 f8_15 rfl rfl (by decide +kernel) rfl rfl c1 ?_
  refine ok_nmi (fun i2 ei2 => ?_)
  replace h := h i2 ei2
  refine ok_aload_n 0 dX8_begin_5 rfl rfl ?_
  obtain ⟨c3, h⟩ := h
  refine ok_ldcS _ dX8_begin_6 (fun U hU => (c3 U hU).2.2.1.2.2.1) ?_
  refine ok_cVv (rest := []) o_rc 8 [.ref (o_ad G 3)] dX8_begin_8 k8_21 c1 rfl rfl (Nat.le_of_ble_eq_true rfl) h (fun i4 h => ?_)
  exact ok_vret dX8_begin_11 rfl h

set_option maxRecDepth 100000 in
set_option maxHeartbeats 4000000 in
theorem sX8_writeText_0 {G : o_G} {d : Nat} {P : o_P} {i : o_I} {r : o_R} (v0 : Nat) (v1 : Nat)
    (h : Ok G (d + 1) mX8_writeText P 2 [some (.ref v0), some (.ref (o_ad G v1)), some (.int 0)] [] i r) :
    Ok G (d + 1) mX8_writeText P 0 [some (.ref v0), some (.ref (o_ad G v1)), none] [] i r := by
  refine ok_iconst 0 dX8_writeText_0 (by decide) ?_
  refine ok_istore_n 2 dX8_writeText_1 rfl (by decide) [some (.ref v0), some (.ref (o_ad G v1)), some (.int 0)] rfl ?_
  exact h

set_option maxRecDepth 100000 in
set_option maxHeartbeats 4000000 in
theorem sX8_writeText_2 {G : o_G} {d : Nat} {P : o_P} {i : o_I} {r : o_R} (v0 : Nat) (v1 : Nat) (v2 : Int32)
    (h : o_cst G ∧ 2 ≤ v1 ∧ v1 ≤ 5 ∧ SpI G d mJ_length [.ref (o_ad G v1)] (fun x4 i4 => ((x4 ≤ v2 → P none i4 r) ∧ (¬ x4 ≤ v2 → SpI G d mJ_charAt [.ref (o_ad G v1), .int v2] (fun x6 i6 => o_O G v0 8 ∧ SpV G d mX8_write [.ref v0, .int x6] (fun i8 => ∀ x9 : Int32, x9 = v2 + 1 → Ok G (d + 1) mX8_writeText P 2 [some (.ref v0), some (.ref (o_ad G v1)), some (.int x9)] [] i8 r) i6 r) i4 r))) i r) :
    Ok G (d + 1) mX8_writeText P 2 [some (.ref v0), some (.ref (o_ad G v1)), some (.int v2)] [] i r := by
  refine ok_iload_n 2 dX8_writeText_2 rfl rfl ?_
  refine ok_aload_n 1 dX8_writeText_3 rfl rfl ?_
  obtain ⟨c1, h⟩ := h
  obtain ⟨c2, h⟩ := h
  obtain ⟨c3, h⟩ := h
  refine ok_cTi (rest := [.int v2]) o_rc c1 c2 c3 [] dX8_writeText_4 k8_124 rfl rfl (Nat.le_of_ble_eq_true rfl) h (fun x4 i4 h => ?_)
  refine ok_ic_ge 25 dX8_writeText_7 (by decide) (fun z5 => ?_) (fun z5 => ?_)
  · replace h := h.1 z5
    exact ok_vret dX8_writeText_25 rfl h
  · replace h := h.2 z5
    refine ok_aload_n 0 dX8_writeText_10 rfl rfl ?_
    refine ok_aload_n 1 dX8_writeText_11 rfl rfl ?_
    refine ok_iload_n 2 dX8_writeText_12 rfl rfl ?_
    refine ok_cTi (rest := [.ref v0]) o_rc c1 c2 c3 [.int v2] dX8_writeText_13 k8_37 rfl rfl (Nat.le_of_ble_eq_true rfl) h (fun x6 i6 h => ?_)
    obtain ⟨c7, h⟩ := h
    refine ok_cVv (rest := []) o_rc 8 [.int x6] dX8_writeText_16 k8_43 c7 rfl rfl (Nat.le_of_ble_eq_true rfl) h (fun i8 h => ?_)
    refine ok_eqi (v2 + 1) (fun x9 ex9 => ?_)
    replace h := h x9 ex9
    refine ok_iinc 1 x9 dX8_writeText_19 rfl (by decide) ex9 (by decide) [some (.ref v0), some (.ref (o_ad G v1)), some (.int x9)] rfl ?_
    refine ok_goto 2 dX8_writeText_22 (by decide) ?_
    exact h

set_option maxRecDepth 100000 in
set_option maxHeartbeats 4000000 in
theorem sX8_writeBaseSite_0 {G : o_G} {d : Nat} {P : o_P} {i : o_I} {r : o_R} (v0 : Nat) (v1 : Nat) (v2 : Int32) (v3 : Nat)
    (h : o_O G v0 8 ∧ SpV G d mX8_writePosition [.ref v0, .ref v1, .int v2] (fun i2 => o_cst G ∧ o_O G v3 2 ∧ o_Y G (r v3 0) 1 ∧ vp_in 0 (o_len G (r v3 0)) ∧ 2 ≤ 2 ∧ 2 ≤ 5 ∧ SpI G d mJ_charAt [.ref (o_ad G 2), .int (i2 (r v3 0) (0 : Int32).toNatClampNeg)] (fun x9 i9 => SpV G d mX8_write [.ref v0, .int x9] (fun i10 => SpV G d mX8_write [.ref v0, .int 9] (fun i11 => Ok G (d + 1) mX8_writeBaseSite P 30 [some (.ref v0), none, none, some (.ref v3), some (.int 1)] [] i11 r) i10 r) i9 r) i2 r) i r) :
    Ok G (d + 1) mX8_writeBaseSite P 0 [some (.ref v0), some (.ref v1), some (.int v2), some (.ref v3), none] [] i r := by
  refine ok_aload_n 0 dX8_writeBaseSite_0 rfl rfl ?_
  refine ok_aload_n 1 dX8_writeBaseSite_1 rfl rfl ?_
  refine ok_iload_n 2 dX8_writeBaseSite_2 rfl rfl ?_
  obtain ⟨c1, h⟩ := h
  refine ok_cVv (rest := []) o_rc 8 [.ref v1, .int v2] dX8_writeBaseSite_3 k8_25 c1 rfl rfl (Nat.le_of_ble_eq_true rfl) h (fun i2 h => ?_)
  refine ok_aload_n 0 dX8_writeBaseSite_6 rfl rfl ?_
  obtain ⟨c3, h⟩ := h
  refine ok_ldcS _ dX8_writeBaseSite_7 (fun U hU => (c3 U hU).2.2.1.2.1) ?_
  refine ok_aload_n 3 dX8_writeBaseSite_9 rfl rfl ?_
  obtain ⟨c4, h⟩ := h
  refine ok_getr 2 0 dX8_writeBaseSite_10 f8_31 rfl c4 ?_
  refine ok_iconst 0 dX8_writeBaseSite_13 (by decide) ?_
  obtain ⟨c5, h⟩ := h
  obtain ⟨c6, h⟩ := h
  refine ok_iald dX8_writeBaseSite_14 c5 c6 ?_
  obtain ⟨c7, h⟩ := h
  obtain ⟨c8, h⟩ := h
  refine ok_cTi (rest := [.ref v0]) o_rc c3 c7 c8 [.int (i2 (r v3 0) (0 : Int32).toNatClampNeg)] dX8_writeBaseSite_15 k8_37 rfl rfl (Nat.le_of_ble_eq_true rfl) h (fun x9 i9 h => ?_)
  refine ok_cVv (rest := []) o_rc 8 [.int x9] dX8_writeBaseSite_18 k8_43 c1 rfl rfl (Nat.le_of_ble_eq_true rfl) h (fun i10 h => ?_)
  refine ok_aload_n 0 dX8_writeBaseSite_21 rfl rfl ?_
  refine ok_bipush 9 dX8_writeBaseSite_22 (by decide) ?_
  refine ok_cVv (rest := []) o_rc 8 [.int 9] dX8_writeBaseSite_24 k8_43 c1 rfl rfl (Nat.le_of_ble_eq_true rfl) h (fun i11 h => ?_)
  refine ok_iconst 1 dX8_writeBaseSite_27 (by decide) ?_
  refine ok_istore dX8_writeBaseSite_28 (by decide) [some (.ref v0), some (.ref v1), some (.int v2), some (.ref v3), some (.int 1)] rfl ?_
  refine ok_wk [some (.ref v0), none, none, some (.ref v3), some (.int 1)] ⟨rfl, rfl, rfl, trivial⟩ ?_
  exact h

set_option maxRecDepth 100000 in
set_option maxHeartbeats 4000000 in
theorem sX8_writeBaseSite_30 {G : o_G} {d : Nat} {P : o_P} {i : o_I} {r : o_R} (v0 : Nat) (v3 : Nat) (v4 : Int32)
    (h : o_O G v3 2 ∧ (((i v3 2) ≤ v4 → o_O G v0 8 ∧ SpV G d mX8_writeJudgement [.ref v0, .ref v3] (fun i4 => P none i4 r) i r) ∧ (¬ (i v3 2) ≤ v4 → (∀ x6 : Int32, x6 = (if v4 ≤ 1 then 0 else 1) → o_O G v0 8 ∧ SpV G d mX8_writeComma [.ref v0, .int x6] (fun i8 => o_cst G ∧ o_Y G (r v3 0) 1 ∧ vp_in v4 (o_len G (r v3 0)) ∧ 2 ≤ 2 ∧ 2 ≤ 5 ∧ SpI G d mJ_charAt [.ref (o_ad G 2), .int (i8 (r v3 0) v4.toNatClampNeg)] (fun x14 i14 => SpV G d mX8_write [.ref v0, .int x14] (fun i15 => ∀ x16 : Int32, x16 = v4 + 1 → Ok G (d + 1) mX8_writeBaseSite P 30 [some (.ref v0), none, none, some (.ref v3), some (.int x16)] [] i15 r) i14 r) i8 r) i r)))) :
    Ok G (d + 1) mX8_writeBaseSite P 30 [some (.ref v0), none, none, some (.ref v3), some (.int v4)] [] i r := by
  refine ok_iload dX8_writeBaseSite_30 rfl ?_
  refine ok_aload_n 3 dX8_writeBaseSite_32 rfl rfl ?_
  obtain ⟨c1, h⟩ := h
  refine ok_geti 2 2 dX8_writeBaseSite_33 f8_47 rfl c1 ?_
  refine ok_ic_ge 76 dX8_writeBaseSite_36 (by decide) (fun z2 => ?_) (fun z2 => ?_)
  · replace h := h.1 z2
    refine ok_aload_n 0 dX8_writeBaseSite_76 rfl rfl ?_
    refine ok_aload_n 3 dX8_writeBaseSite_77 rfl rfl ?_
    obtain ⟨c3, h⟩ := h
    refine ok_cVv (rest := []) o_rc 8 [.ref v3] dX8_writeBaseSite_78 k8_54 c3 rfl rfl (Nat.le_of_ble_eq_true rfl) h (fun i4 h => ?_)
    exact ok_vret dX8_writeBaseSite_81 rfl h
  · replace h := h.2 z2
    refine ok_aload_n 0 dX8_writeBaseSite_39 rfl rfl ?_
    refine ok_iload dX8_writeBaseSite_40 rfl ?_
    refine ok_iconst 1 dX8_writeBaseSite_42 (by decide) ?_
    have k17 : ∀ x6 : Int32, x6 = (if v4 ≤ 1 then 0 else 1) → Ok G (d + 1) mX8_writeBaseSite P 51 [some (.ref v0), none, none, some (.ref v3), some (.int v4)] [.int x6, .ref v0] i r := by
      intro x6 ex6
      replace h := h x6 ex6
      obtain ⟨c7, h⟩ := h
      refine ok_cVv (rest := []) o_rc 8 [.int x6] dX8_writeBaseSite_51 k8_50 c7 rfl rfl (Nat.le_of_ble_eq_true rfl) h (fun i8 h => ?_)
      refine ok_aload_n 0 dX8_writeBaseSite_54 rfl rfl ?_
      obtain ⟨c9, h⟩ := h
      refine ok_ldcS _ dX8_writeBaseSite_55 (fun U hU => (c9 U hU).2.2.1.2.1) ?_
      refine ok_aload_n 3 dX8_writeBaseSite_57 rfl rfl ?_
      refine ok_getr 2 0 dX8_writeBaseSite_58 f8_31 rfl c1 ?_
      refine ok_iload dX8_writeBaseSite_61 rfl ?_
      obtain ⟨c10, h⟩ := h
      obtain ⟨c11, h⟩ := h
      refine ok_iald dX8_writeBaseSite_63 c10 c11 ?_
      obtain ⟨c12, h⟩ := h
      obtain ⟨c13, h⟩ := h
      refine ok_cTi (rest := [.ref v0]) o_rc c9 c12 c13 [.int (i8 (r v3 0) v4.toNatClampNeg)] dX8_writeBaseSite_64 k8_37 rfl rfl (Nat.le_of_ble_eq_true rfl) h (fun x14 i14 h => ?_)
      refine ok_cVv (rest := []) o_rc 8 [.int x14] dX8_writeBaseSite_67 k8_43 c7 rfl rfl (Nat.le_of_ble_eq_true rfl) h (fun i15 h => ?_)
      refine ok_eqi (v4 + 1) (fun x16 ex16 => ?_)
      replace h := h x16 ex16
      refine ok_iinc 1 x16 dX8_writeBaseSite_70 rfl (by decide) ex16 (by decide) [some (.ref v0), none, none, some (.ref v3), some (.int x16)] rfl ?_
      refine ok_goto 30 dX8_writeBaseSite_73 (by decide) ?_
      exact h
    clear h
    refine ok_ic_le 50 dX8_writeBaseSite_43 (by decide) (fun z5 => ?_) (fun z5 => ?_)
    · refine ok_iconst 0 dX8_writeBaseSite_50 (by decide) ?_
      exact k17 (0) (by simp only [if_pos z5])
    · refine ok_iconst 1 dX8_writeBaseSite_46 (by decide) ?_
      refine ok_goto 51 dX8_writeBaseSite_47 (by decide) ?_
      exact k17 (1) (by simp only [if_neg z5])

set_option maxRecDepth 100000 in
set_option maxHeartbeats 4000000 in
theorem sX8_writePosition_0 {G : o_G} {d : Nat} {P : o_P} {i : o_I} {r : o_R} (v0 : Nat) (v1 : Nat) (v2 : Int32)
    (h : Ok G (d + 1) mX8_writePosition P 2 [some (.ref v0), some (.ref v1), some (.int v2), some (.int 0)] [] i r) :
    Ok G (d + 1) mX8_writePosition P 0 [some (.ref v0), some (.ref v1), some (.int v2), none] [] i r := by
  refine ok_iconst 0 dX8_writePosition_0 (by decide) ?_
  refine ok_istore_n 3 dX8_writePosition_1 rfl (by decide) [some (.ref v0), some (.ref v1), some (.int v2), some (.int 0)] rfl ?_
  exact h

set_option maxRecDepth 100000 in
set_option maxHeartbeats 4000000 in
theorem sX8_writePosition_2 {G : o_G} {d : Nat} {P : o_P} {i : o_I} {r : o_R} (v0 : Nat) (v1 : Nat) (v2 : Int32) (v3 : Int32)
    (h : o_O G v1 6 ∧ (((i v1 1) ≤ v3 → o_O G v0 8 ∧ SpV G d mX8_write [.ref v0, .int 9] (fun i4 => SpV G d mX8_writeNumber [.ref v0, .int (v2 + 1)] (fun i5 => o_cst G ∧ SpV G d mX8_writeText [.ref v0, .ref (o_ad G 4)] (fun i7 => P none i7 r) i5 r) i4 r) i r) ∧ (¬ (i v1 1) ≤ v3 → o_Y G (r v1 0) 2 ∧ vp_in v3 (o_len G (r v1 0)) ∧ o_O G v0 8 ∧ SpV G d mX8_write [.ref v0, .int (i (r v1 0) v3.toNatClampNeg)] (fun i11 => ∀ x12 : Int32, x12 = v3 + 1 → Ok G (d + 1) mX8_writePosition P 2 [some (.ref v0), some (.ref v1), some (.int v2), some (.int x12)] [] i11 r) i r))) :
    Ok G (d + 1) mX8_writePosition P 2 [some (.ref v0), some (.ref v1), some (.int v2), some (.int v3)] [] i r := by
  refine ok_iload_n 3 dX8_writePosition_2 rfl rfl ?_
  refine ok_aload_n 1 dX8_writePosition_3 rfl rfl ?_
  obtain ⟨c1, h⟩ := h
  refine ok_geti 6 1 dX8_writePosition_4 f8_76 rfl c1 ?_
  refine ok_ic_ge 26 dX8_writePosition_7 (by decide) (fun z2 => ?_) (fun z2 => ?_)
  · replace h := h.1 z2
    refine ok_aload_n 0 dX8_writePosition_26 rfl rfl ?_
    refine ok_bipush 9 dX8_writePosition_27 (by decide) ?_
    obtain ⟨c3, h⟩ := h
    refine ok_cVv (rest := []) o_rc 8 [.int 9] dX8_writePosition_29 k8_43 c3 rfl rfl (Nat.le_of_ble_eq_true rfl) h (fun i4 h => ?_)
    refine ok_aload_n 0 dX8_writePosition_32 rfl rfl ?_
    refine ok_iload_n 2 dX8_writePosition_33 rfl rfl ?_
    refine ok_iconst 1 dX8_writePosition_34 (by decide) ?_
    refine ok_iadd dX8_writePosition_35 ?_
    refine ok_cVv (rest := []) o_rc 8 [.int (v2 + 1)] dX8_writePosition_36 k8_84 c3 rfl rfl (Nat.le_of_ble_eq_true rfl) h (fun i5 h => ?_)
    refine ok_aload_n 0 dX8_writePosition_39 rfl rfl ?_
    obtain ⟨c6, h⟩ := h
    refine ok_ldcS _ dX8_writePosition_40 (fun U hU => (c6 U hU).2.2.1.2.2.2.1) ?_
    refine ok_cVv (rest := []) o_rc 8 [.ref (o_ad G 4)] dX8_writePosition_42 k8_21 c3 rfl rfl (Nat.le_of_ble_eq_true rfl) h (fun i7 h => ?_)
    exact ok_vret dX8_writePosition_45 rfl h
  · replace h := h.2 z2
    refine ok_aload_n 0 dX8_writePosition_10 rfl rfl ?_
    refine ok_aload_n 1 dX8_writePosition_11 rfl rfl ?_
    refine ok_getr 6 0 dX8_writePosition_12 f8_81 rfl c1 ?_
    refine ok_iload_n 3 dX8_writePosition_15 rfl rfl ?_
    obtain ⟨c8, h⟩ := h
    obtain ⟨c9, h⟩ := h
    refine ok_cald dX8_writePosition_16 c8 c9 ?_
    obtain ⟨c10, h⟩ := h
    refine ok_cVv (rest := []) o_rc 8 [.int (i (r v1 0) v3.toNatClampNeg)] dX8_writePosition_17 k8_43 c10 rfl rfl (Nat.le_of_ble_eq_true rfl) h (fun i11 h => ?_)
    refine ok_eqi (v3 + 1) (fun x12 ex12 => ?_)
    replace h := h x12 ex12
    refine ok_iinc 1 x12 dX8_writePosition_20 rfl (by decide) ex12 (by decide) [some (.ref v0), some (.ref v1), some (.int v2), some (.int x12)] rfl ?_
    refine ok_goto 2 dX8_writePosition_23 (by decide) ?_
    exact h

set_option maxRecDepth 100000 in
set_option maxHeartbeats 4000000 in
theorem sX8_writeJudgement_0 {G : o_G} {d : Nat} {P : o_P} {i : o_I} {r : o_R} (v0 : Nat) (v1 : Nat)
    (h : o_O G v0 8 ∧ SpV G d mX8_write [.ref v0, .int 9] (fun i2 => o_O G v1 2 ∧ SpI G d mX2_excess [.ref v1, .int 0] (fun x4 i4 => SpV G d mX8_writeNumber [.ref v0, .int (if x4 < 999 then x4 else 999)] (fun i5 => o_cst G ∧ SpV G d mX8_writeText [.ref v0, .ref (o_ad G 5)] (fun i7 => SpI G d mX2_firstChosen [.ref v1] (fun x8 i8 => SpV G d mX8_writeNumber [.ref v0, .int x8] (fun i9 => SpV G d mX8_write [.ref v0, .int 47] (fun i10 => SpI G d mX2_secondChosen [.ref v1] (fun x11 i11 => SpV G d mX8_writeNumber [.ref v0, .int x11] (fun i12 => SpV G d mX8_write [.ref v0, .int 58] (fun i13 => SpV G d mX8_writeNumber [.ref v0, .int (i13 v1 6)] (fun i14 => SpV G d mX8_write [.ref v0, .int 58] (fun i15 => Ok G (d + 1) mX8_writeJudgement P 71 [some (.ref v0), some (.ref v1), some (.int 0)] [] i15 r) i14 r) i13 r) i12 r) i11 r) i10 r) i9 r) i8 r) i7 r) i5 r) i4 r) i2 r) i r) :
    Ok G (d + 1) mX8_writeJudgement P 0 [some (.ref v0), some (.ref v1), none] [] i r := by
  refine ok_aload_n 0 dX8_writeJudgement_0 rfl rfl ?_
  refine ok_bipush 9 dX8_writeJudgement_1 (by decide) ?_
  obtain ⟨c1, h⟩ := h
  refine ok_cVv (rest := []) o_rc 8 [.int 9] dX8_writeJudgement_3 k8_43 c1 rfl rfl (Nat.le_of_ble_eq_true rfl) h (fun i2 h => ?_)
  refine ok_aload_n 0 dX8_writeJudgement_6 rfl rfl ?_
  refine ok_sipush 999 dX8_writeJudgement_7 (by decide) ?_
  refine ok_aload_n 1 dX8_writeJudgement_10 rfl rfl ?_
  refine ok_iconst 0 dX8_writeJudgement_11 (by decide) ?_
  obtain ⟨c3, h⟩ := h
  refine ok_cVi (rest := [.int 999, .ref v0]) o_rc 2 [.int 0] dX8_writeJudgement_12 k8_99 c3 rfl rfl (Nat.le_of_ble_eq_true rfl) h (fun x4 i4 h => ?_)
  refine ok_min o_rc dX8_writeJudgement_15 l8_103 w_min_2 w_math w_min_4 (Nat.le_of_ble_eq_true rfl) ?_
  refine ok_cVv (rest := []) o_rc 8 [.int (if x4 < 999 then x4 else 999)] dX8_writeJudgement_18 k8_84 c1 rfl rfl (Nat.le_of_ble_eq_true rfl) h (fun i5 h => ?_)
  refine ok_aload_n 0 dX8_writeJudgement_21 rfl rfl ?_
  obtain ⟨c6, h⟩ := h
  refine ok_ldcS _ dX8_writeJudgement_22 (fun U hU => (c6 U hU).2.2.1.2.2.2.2) ?_
  refine ok_cVv (rest := []) o_rc 8 [.ref (o_ad G 5)] dX8_writeJudgement_24 k8_21 c1 rfl rfl (Nat.le_of_ble_eq_true rfl) h (fun i7 h => ?_)
  refine ok_aload_n 0 dX8_writeJudgement_27 rfl rfl ?_
  refine ok_aload_n 1 dX8_writeJudgement_28 rfl rfl ?_
  refine ok_cVi (rest := [.ref v0]) o_rc 2 [] dX8_writeJudgement_29 k8_108 c3 rfl rfl (Nat.le_of_ble_eq_true rfl) h (fun x8 i8 h => ?_)
  refine ok_cVv (rest := []) o_rc 8 [.int x8] dX8_writeJudgement_32 k8_84 c1 rfl rfl (Nat.le_of_ble_eq_true rfl) h (fun i9 h => ?_)
  refine ok_aload_n 0 dX8_writeJudgement_35 rfl rfl ?_
  refine ok_bipush 47 dX8_writeJudgement_36 (by decide) ?_
  refine ok_cVv (rest := []) o_rc 8 [.int 47] dX8_writeJudgement_38 k8_43 c1 rfl rfl (Nat.le_of_ble_eq_true rfl) h (fun i10 h => ?_)
  refine ok_aload_n 0 dX8_writeJudgement_41 rfl rfl ?_
  refine ok_aload_n 1 dX8_writeJudgement_42 rfl rfl ?_
  refine ok_cVi (rest := [.ref v0]) o_rc 2 [] dX8_writeJudgement_43 k8_112 c3 rfl rfl (Nat.le_of_ble_eq_true rfl) h (fun x11 i11 h => ?_)
  refine ok_cVv (rest := []) o_rc 8 [.int x11] dX8_writeJudgement_46 k8_84 c1 rfl rfl (Nat.le_of_ble_eq_true rfl) h (fun i12 h => ?_)
  refine ok_aload_n 0 dX8_writeJudgement_49 rfl rfl ?_
  refine ok_bipush 58 dX8_writeJudgement_50 (by decide) ?_
  refine ok_cVv (rest := []) o_rc 8 [.int 58] dX8_writeJudgement_52 k8_43 c1 rfl rfl (Nat.le_of_ble_eq_true rfl) h (fun i13 h => ?_)
  refine ok_aload_n 0 dX8_writeJudgement_55 rfl rfl ?_
  refine ok_aload_n 1 dX8_writeJudgement_56 rfl rfl ?_
  refine ok_geti 2 6 dX8_writeJudgement_57 f8_115 rfl c3 ?_
  refine ok_cVv (rest := []) o_rc 8 [.int (i13 v1 6)] dX8_writeJudgement_60 k8_84 c1 rfl rfl (Nat.le_of_ble_eq_true rfl) h (fun i14 h => ?_)
  refine ok_aload_n 0 dX8_writeJudgement_63 rfl rfl ?_
  refine ok_bipush 58 dX8_writeJudgement_64 (by decide) ?_
  refine ok_cVv (rest := []) o_rc 8 [.int 58] dX8_writeJudgement_66 k8_43 c1 rfl rfl (Nat.le_of_ble_eq_true rfl) h (fun i15 h => ?_)
  refine ok_iconst 0 dX8_writeJudgement_69 (by decide) ?_
  refine ok_istore_n 2 dX8_writeJudgement_70 rfl (by decide) [some (.ref v0), some (.ref v1), some (.int 0)] rfl ?_
  exact h

set_option maxRecDepth 100000 in
set_option maxHeartbeats 4000000 in
theorem sX8_writeJudgement_71 {G : o_G} {d : Nat} {P : o_P} {i : o_I} {r : o_R} (v0 : Nat) (v1 : Nat) (v2 : Int32)
    (h : o_O G v1 2 ∧ (((i v1 2) ≤ v2 → o_O G v0 8 ∧ SpV G d mX8_write [.ref v0, .int 58] (fun i4 => Ok G (d + 1) mX8_writeJudgement P 116 [some (.ref v0), some (.ref v1), some (.int 0)] [] i4 r) i r) ∧ (¬ (i v1 2) ≤ v2 → (∀ x6 : Int32, x6 = (if v2 ≤ 0 then 0 else 1) → o_O G v0 8 ∧ SpV G d mX8_writeComma [.ref v0, .int x6] (fun i8 => o_Y G (r v1 1) 1 ∧ vp_in v2 (o_len G (r v1 1)) ∧ SpV G d mX8_writeNumber [.ref v0, .int (i8 (r v1 1) v2.toNatClampNeg)] (fun i11 => ∀ x12 : Int32, x12 = v2 + 1 → Ok G (d + 1) mX8_writeJudgement P 71 [some (.ref v0), some (.ref v1), some (.int x12)] [] i11 r) i8 r) i r)))) :
    Ok G (d + 1) mX8_writeJudgement P 71 [some (.ref v0), some (.ref v1), some (.int v2)] [] i r := by
  refine ok_iload_n 2 dX8_writeJudgement_71 rfl rfl ?_
  refine ok_aload_n 1 dX8_writeJudgement_72 rfl rfl ?_
  obtain ⟨c1, h⟩ := h
  refine ok_geti 2 2 dX8_writeJudgement_73 f8_47 rfl c1 ?_
  refine ok_ic_ge 108 dX8_writeJudgement_76 (by decide) (fun z2 => ?_) (fun z2 => ?_)
  · replace h := h.1 z2
    refine ok_aload_n 0 dX8_writeJudgement_108 rfl rfl ?_
    refine ok_bipush 58 dX8_writeJudgement_109 (by decide) ?_
    obtain ⟨c3, h⟩ := h
    refine ok_cVv (rest := []) o_rc 8 [.int 58] dX8_writeJudgement_111 k8_43 c3 rfl rfl (Nat.le_of_ble_eq_true rfl) h (fun i4 h => ?_)
    refine ok_iconst 0 dX8_writeJudgement_114 (by decide) ?_
    refine ok_istore_n 2 dX8_writeJudgement_115 rfl (by decide) [some (.ref v0), some (.ref v1), some (.int 0)] rfl ?_
    exact h
  · replace h := h.2 z2
    refine ok_aload_n 0 dX8_writeJudgement_79 rfl rfl ?_
    refine ok_iload_n 2 dX8_writeJudgement_80 rfl rfl ?_
    have k13 : ∀ x6 : Int32, x6 = (if v2 ≤ 0 then 0 else 1) → Ok G (d + 1) mX8_writeJudgement P 89 [some (.ref v0), some (.ref v1), some (.int v2)] [.int x6, .ref v0] i r := by
      intro x6 ex6
      replace h := h x6 ex6
      obtain ⟨c7, h⟩ := h
      refine ok_cVv (rest := []) o_rc 8 [.int x6] dX8_writeJudgement_89 k8_50 c7 rfl rfl (Nat.le_of_ble_eq_true rfl) h (fun i8 h => ?_)
      refine ok_aload_n 0 dX8_writeJudgement_92 rfl rfl ?_
      refine ok_aload_n 1 dX8_writeJudgement_93 rfl rfl ?_
      refine ok_getr 2 1 dX8_writeJudgement_94 f8_118 rfl c1 ?_
      refine ok_iload_n 2 dX8_writeJudgement_97 rfl rfl ?_
      obtain ⟨c9, h⟩ := h
      obtain ⟨c10, h⟩ := h
      refine ok_iald dX8_writeJudgement_98 c9 c10 ?_
      refine ok_cVv (rest := []) o_rc 8 [.int (i8 (r v1 1) v2.toNatClampNeg)] dX8_writeJudgement_99 k8_84 c7 rfl rfl (Nat.le_of_ble_eq_true rfl) h (fun i11 h => ?_)
      refine ok_eqi (v2 + 1) (fun x12 ex12 => ?_)
      replace h := h x12 ex12
      refine ok_iinc 1 x12 dX8_writeJudgement_102 rfl (by decide) ex12 (by decide) [some (.ref v0), some (.ref v1), some (.int x12)] rfl ?_
      refine ok_goto 71 dX8_writeJudgement_105 (by decide) ?_
      exact h
    clear h
    refine ok_if_le 88 dX8_writeJudgement_81 (by decide) (fun z5 => ?_) (fun z5 => ?_)
    · refine ok_iconst 0 dX8_writeJudgement_88 (by decide) ?_
      exact k13 (0) (by simp only [if_pos z5])
    · refine ok_iconst 1 dX8_writeJudgement_84 (by decide) ?_
      refine ok_goto 89 dX8_writeJudgement_85 (by decide) ?_
      exact k13 (1) (by simp only [if_neg z5])

set_option maxRecDepth 100000 in
set_option maxHeartbeats 4000000 in
theorem sX8_writeJudgement_116 {G : o_G} {d : Nat} {P : o_P} {i : o_I} {r : o_R} (v0 : Nat) (v1 : Nat) (v2 : Int32)
    (h : o_O G v1 2 ∧ (((i v1 4) ≤ v2 → o_O G v0 8 ∧ SpV G d mX8_write [.ref v0, .int 10] (fun i4 => P none i4 r) i r) ∧ (¬ (i v1 4) ≤ v2 → (∀ x6 : Int32, x6 = (if v2 ≤ 0 then 0 else 1) → o_O G v0 8 ∧ SpV G d mX8_writeComma [.ref v0, .int x6] (fun i8 => SpI G d mX2_excess [.ref v1, .int v2] (fun x9 i9 => SpV G d mX8_writeNumber [.ref v0, .int (if x9 < 255 then x9 else 255)] (fun i10 => ∀ x11 : Int32, x11 = v2 + 1 → Ok G (d + 1) mX8_writeJudgement P 116 [some (.ref v0), some (.ref v1), some (.int x11)] [] i10 r) i9 r) i8 r) i r)))) :
    Ok G (d + 1) mX8_writeJudgement P 116 [some (.ref v0), some (.ref v1), some (.int v2)] [] i r := by
  refine ok_iload_n 2 dX8_writeJudgement_116 rfl rfl ?_
  refine ok_aload_n 1 dX8_writeJudgement_117 rfl rfl ?_
  obtain ⟨c1, h⟩ := h
  refine ok_geti 2 4 dX8_writeJudgement_118 f8_121 rfl c1 ?_
  refine ok_ic_ge 158 dX8_writeJudgement_121 (by decide) (fun z2 => ?_) (fun z2 => ?_)
  · replace h := h.1 z2
    refine ok_aload_n 0 dX8_writeJudgement_158 rfl rfl ?_
    refine ok_bipush 10 dX8_writeJudgement_159 (by decide) ?_
    obtain ⟨c3, h⟩ := h
    refine ok_cVv (rest := []) o_rc 8 [.int 10] dX8_writeJudgement_161 k8_43 c3 rfl rfl (Nat.le_of_ble_eq_true rfl) h (fun i4 h => ?_)
    exact ok_vret dX8_writeJudgement_164 rfl h
  · replace h := h.2 z2
    refine ok_aload_n 0 dX8_writeJudgement_124 rfl rfl ?_
    refine ok_iload_n 2 dX8_writeJudgement_125 rfl rfl ?_
    have k12 : ∀ x6 : Int32, x6 = (if v2 ≤ 0 then 0 else 1) → Ok G (d + 1) mX8_writeJudgement P 134 [some (.ref v0), some (.ref v1), some (.int v2)] [.int x6, .ref v0] i r := by
      intro x6 ex6
      replace h := h x6 ex6
      obtain ⟨c7, h⟩ := h
      refine ok_cVv (rest := []) o_rc 8 [.int x6] dX8_writeJudgement_134 k8_50 c7 rfl rfl (Nat.le_of_ble_eq_true rfl) h (fun i8 h => ?_)
      refine ok_aload_n 0 dX8_writeJudgement_137 rfl rfl ?_
      refine ok_sipush 255 dX8_writeJudgement_138 (by decide) ?_
      refine ok_aload_n 1 dX8_writeJudgement_141 rfl rfl ?_
      refine ok_iload_n 2 dX8_writeJudgement_142 rfl rfl ?_
      refine ok_cVi (rest := [.int 255, .ref v0]) o_rc 2 [.int v2] dX8_writeJudgement_143 k8_99 c1 rfl rfl (Nat.le_of_ble_eq_true rfl) h (fun x9 i9 h => ?_)
      refine ok_min o_rc dX8_writeJudgement_146 l8_103 w_min_2 w_math w_min_4 (Nat.le_of_ble_eq_true rfl) ?_
      refine ok_cVv (rest := []) o_rc 8 [.int (if x9 < 255 then x9 else 255)] dX8_writeJudgement_149 k8_84 c7 rfl rfl (Nat.le_of_ble_eq_true rfl) h (fun i10 h => ?_)
      refine ok_eqi (v2 + 1) (fun x11 ex11 => ?_)
      replace h := h x11 ex11
      refine ok_iinc 1 x11 dX8_writeJudgement_152 rfl (by decide) ex11 (by decide) [some (.ref v0), some (.ref v1), some (.int x11)] rfl ?_
      refine ok_goto 116 dX8_writeJudgement_155 (by decide) ?_
      exact h
    clear h
    refine ok_if_le 133 dX8_writeJudgement_126 (by decide) (fun z5 => ?_) (fun z5 => ?_)
    · refine ok_iconst 0 dX8_writeJudgement_133 (by decide) ?_
      exact k12 (0) (by simp only [if_pos z5])
    · refine ok_iconst 1 dX8_writeJudgement_129 (by decide) ?_
      refine ok_goto 134 dX8_writeJudgement_130 (by decide) ?_
      exact k12 (1) (by simp only [if_neg z5])

set_option maxRecDepth 100000 in
set_option maxHeartbeats 4000000 in
theorem sX8_writeBases_0 {G : o_G} {d : Nat} {P : o_P} {i : o_I} {r : o_R} (v0 : Nat) (v1 : Nat) (v2 : Int32) (v3 : Int32)
    (h : Ok G (d + 1) mX8_writeBases P 3 [some (.ref v0), some (.ref v1), none, some (.int v3), some (.int v2)] [] i r) :
    Ok G (d + 1) mX8_writeBases P 0 [some (.ref v0), some (.ref v1), some (.int v2), some (.int v3), none] [] i r := by
  refine ok_iload_n 2 dX8_writeBases_0 rfl rfl ?_
  refine ok_istore dX8_writeBases_1 (by decide) [some (.ref v0), some (.ref v1), some (.int v2), some (.int v3), some (.int v2)] rfl ?_
  refine ok_wk [some (.ref v0), some (.ref v1), none, some (.int v3), some (.int v2)] ⟨rfl, rfl, rfl, rfl, trivial⟩ ?_
  exact h

set_option maxRecDepth 100000 in
set_option maxHeartbeats 4000000 in
theorem sX8_writeBases_3 {G : o_G} {d : Nat} {P : o_P} {i : o_I} {r : o_R} (v0 : Nat) (v1 : Nat) (v3 : Int32) (v4 : Int32)
    (h : ((v3 < v4 → P none i r) ∧ (¬ v3 < v4 → o_O G v1 6 ∧ (((i v1 3) ≤ v4 → P none i r) ∧ (¬ (i v1 3) ≤ v4 → o_cst G ∧ o_Y G (r v1 2) 1 ∧ vp_in v4 (o_len G (r v1 2)) ∧ 2 ≤ 2 ∧ 2 ≤ 5 ∧ SpI G d mJ_charAt [.ref (o_ad G 2), .int (i (r v1 2) v4.toNatClampNeg)] (fun x9 i9 => o_O G v0 8 ∧ SpV G d mX8_write [.ref v0, .int x9] (fun i11 => ∀ x12 : Int32, x12 = v4 + 1 → Ok G (d + 1) mX8_writeBases P 3 [some (.ref v0), some (.ref v1), none, some (.int v3), some (.int x12)] [] i11 r) i9 r) i r))))) :
    Ok G (d + 1) mX8_writeBases P 3 [some (.ref v0), some (.ref v1), none, some (.int v3), some (.int v4)] [] i r := by
  refine ok_iload dX8_writeBases_3 rfl ?_
  refine ok_iload_n 3 dX8_writeBases_5 rfl rfl ?_
  refine ok_ic_gt 40 dX8_writeBases_6 (by decide) (fun z1 => ?_) (fun z1 => ?_)
  · replace h := h.1 z1
    exact ok_vret dX8_writeBases_40 rfl h
  · replace h := h.2 z1
    refine ok_iload dX8_writeBases_9 rfl ?_
    refine ok_aload_n 1 dX8_writeBases_11 rfl rfl ?_
    obtain ⟨c2, h⟩ := h
    refine ok_geti 6 3 dX8_writeBases_12 f8_93 rfl c2 ?_
    refine ok_ic_ge 40 dX8_writeBases_15 (by decide) (fun z3 => ?_) (fun z3 => ?_)
    · replace h := h.1 z3
      exact ok_vret dX8_writeBases_40 rfl h
    · replace h := h.2 z3
      refine ok_aload_n 0 dX8_writeBases_18 rfl rfl ?_
      obtain ⟨c4, h⟩ := h
      refine ok_ldcS _ dX8_writeBases_19 (fun U hU => (c4 U hU).2.2.1.2.1) ?_
      refine ok_aload_n 1 dX8_writeBases_21 rfl rfl ?_
      refine ok_getr 6 2 dX8_writeBases_22 f8_96 rfl c2 ?_
      refine ok_iload dX8_writeBases_25 rfl ?_
      obtain ⟨c5, h⟩ := h
      obtain ⟨c6, h⟩ := h
      refine ok_iald dX8_writeBases_27 c5 c6 ?_
      obtain ⟨c7, h⟩ := h
      obtain ⟨c8, h⟩ := h
      refine ok_cTi (rest := [.ref v0]) o_rc c4 c7 c8 [.int (i (r v1 2) v4.toNatClampNeg)] dX8_writeBases_28 k8_37 rfl rfl (Nat.le_of_ble_eq_true rfl) h (fun x9 i9 h => ?_)
      obtain ⟨c10, h⟩ := h
      refine ok_cVv (rest := []) o_rc 8 [.int x9] dX8_writeBases_31 k8_43 c10 rfl rfl (Nat.le_of_ble_eq_true rfl) h (fun i11 h => ?_)
      refine ok_eqi (v4 + 1) (fun x12 ex12 => ?_)
      replace h := h x12 ex12
      refine ok_iinc 1 x12 dX8_writeBases_34 rfl (by decide) ex12 (by decide) [some (.ref v0), some (.ref v1), none, some (.int v3), some (.int x12)] rfl ?_
      refine ok_goto 3 dX8_writeBases_37 (by decide) ?_
      exact h

set_option maxRecDepth 100000 in
set_option maxHeartbeats 4000000 in
theorem sX8_writeGain_0 {G : o_G} {d : Nat} {P : o_P} {i : o_I} {r : o_R} (v0 : Nat) (v1 : Int32)
    (h : Ok G (d + 1) mX8_writeGain P 2 [some (.ref v0), some (.int v1), some (.int 1), none] [] i r) :
    Ok G (d + 1) mX8_writeGain P 0 [some (.ref v0), some (.int v1), none, none] [] i r := by
  refine ok_iconst 1 dX8_writeGain_0 (by decide) ?_
  refine ok_istore_n 2 dX8_writeGain_1 rfl (by decide) [some (.ref v0), some (.int v1), some (.int 1), none] rfl ?_
  exact h

set_option maxRecDepth 100000 in
set_option maxHeartbeats 4000000 in
theorem sX8_writeGain_2 {G : o_G} {d : Nat} {P : o_P} {i : o_I} {r : o_R} (v0 : Nat) (v1 : Int32) (v2 : Int32)
    (h : ((v1 < (v2 * 4) → ∀ x2 : Int32, x2 = (v2 / 4) → Ok G (d + 1) mX8_writeGain P 26 [some (.ref v0), some (.int v1), none, some (.int x2)] [] i r) ∧ (¬ v1 < (v2 * 4) → ((64 ≤ v2 → ∀ x4 : Int32, x4 = (v2 / 4) → Ok G (d + 1) mX8_writeGain P 26 [some (.ref v0), some (.int v1), none, some (.int x4)] [] i r) ∧ (¬ 64 ≤ v2 → ∀ x5 : Int32, x5 = (v2 * 4) → Ok G (d + 1) mX8_writeGain P 2 [some (.ref v0), some (.int v1), some (.int x5), none] [] i r))))) :
    Ok G (d + 1) mX8_writeGain P 2 [some (.ref v0), some (.int v1), some (.int v2), none] [] i r := by
  refine ok_iload_n 2 dX8_writeGain_2 rfl rfl ?_
  refine ok_iconst 4 dX8_writeGain_3 (by decide) ?_
  refine ok_imul dX8_writeGain_4 ?_
  refine ok_iload_n 1 dX8_writeGain_5 rfl rfl ?_
  refine ok_ic_gt 22 dX8_writeGain_6 (by decide) (fun z1 => ?_) (fun z1 => ?_)
  · replace h := h.1 z1
    refine ok_iload_n 2 dX8_writeGain_22 rfl rfl ?_
    refine ok_iconst 4 dX8_writeGain_23 (by decide) ?_
    refine ok_idiv dX8_writeGain_24 (by decide) ?_
    refine ok_topi (fun x2 ex2 => ?_)
    replace h := h x2 ex2
    refine ok_istore_n 3 dX8_writeGain_25 rfl (by decide) [some (.ref v0), some (.int v1), some (.int v2), some (.int x2)] rfl ?_
    refine ok_wk [some (.ref v0), some (.int v1), none, some (.int x2)] ⟨rfl, rfl, rfl, trivial⟩ ?_
    exact h
  · replace h := h.2 z1
    refine ok_iload_n 2 dX8_writeGain_9 rfl rfl ?_
    refine ok_bipush 64 dX8_writeGain_10 (by decide) ?_
    refine ok_ic_ge 22 dX8_writeGain_12 (by decide) (fun z3 => ?_) (fun z3 => ?_)
    · replace h := h.1 z3
      refine ok_iload_n 2 dX8_writeGain_22 rfl rfl ?_
      refine ok_iconst 4 dX8_writeGain_23 (by decide) ?_
      refine ok_idiv dX8_writeGain_24 (by decide) ?_
      refine ok_topi (fun x4 ex4 => ?_)
      replace h := h x4 ex4
      refine ok_istore_n 3 dX8_writeGain_25 rfl (by decide) [some (.ref v0), some (.int v1), some (.int v2), some (.int x4)] rfl ?_
      refine ok_wk [some (.ref v0), some (.int v1), none, some (.int x4)] ⟨rfl, rfl, rfl, trivial⟩ ?_
      exact h
    · replace h := h.2 z3
      refine ok_iload_n 2 dX8_writeGain_15 rfl rfl ?_
      refine ok_iconst 4 dX8_writeGain_16 (by decide) ?_
      refine ok_imul dX8_writeGain_17 ?_
      refine ok_topi (fun x5 ex5 => ?_)
      replace h := h x5 ex5
      refine ok_istore_n 2 dX8_writeGain_18 rfl (by decide) [some (.ref v0), some (.int v1), some (.int x5), none] rfl ?_
      refine ok_goto 2 dX8_writeGain_19 (by decide) ?_
      exact h

set_option maxRecDepth 100000 in
set_option maxHeartbeats 4000000 in
theorem sX8_writeGain_26 {G : o_G} {d : Nat} {P : o_P} {i : o_I} {r : o_R} (v0 : Nat) (v1 : Int32) (v3 : Int32)
    (h : ((v3 ≤ 0 → P none i r) ∧ (¬ v3 ≤ 0 → o_cst G ∧ ¬ v3 = 0 ∧ 2 ≤ 2 ∧ 2 ≤ 5 ∧ SpI G d mJ_charAt [.ref (o_ad G 2), .int ((v1 / v3) - (v1 / v3) / 4 * 4)] (fun x6 i6 => o_O G v0 8 ∧ SpV G d mX8_write [.ref v0, .int x6] (fun i8 => ∀ x9 : Int32, x9 = (v3 / 4) → Ok G (d + 1) mX8_writeGain P 26 [some (.ref v0), some (.int v1), none, some (.int x9)] [] i8 r) i6 r) i r))) :
    Ok G (d + 1) mX8_writeGain P 26 [some (.ref v0), some (.int v1), none, some (.int v3)] [] i r := by
  refine ok_iload_n 3 dX8_writeGain_26 rfl rfl ?_
  refine ok_if_le 51 dX8_writeGain_27 (by decide) (fun z1 => ?_) (fun z1 => ?_)
  · replace h := h.1 z1
    exact ok_vret dX8_writeGain_51 rfl h
  · replace h := h.2 z1
    refine ok_aload_n 0 dX8_writeGain_30 rfl rfl ?_
    obtain ⟨c2, h⟩ := h
    refine ok_ldcS _ dX8_writeGain_31 (fun U hU => (c2 U hU).2.2.1.2.1) ?_
    refine ok_iload_n 1 dX8_writeGain_33 rfl rfl ?_
    refine ok_iload_n 3 dX8_writeGain_34 rfl rfl ?_
    obtain ⟨c3, h⟩ := h
    refine ok_idiv dX8_writeGain_35 c3 ?_
    refine ok_iconst 4 dX8_writeGain_36 (by decide) ?_
    refine ok_irem dX8_writeGain_37 (by decide) ?_
    obtain ⟨c4, h⟩ := h
    obtain ⟨c5, h⟩ := h
    refine ok_cTi (rest := [.ref v0]) o_rc c2 c4 c5 [.int ((v1 / v3) - (v1 / v3) / 4 * 4)] dX8_writeGain_38 k8_37 rfl rfl (Nat.le_of_ble_eq_true rfl) h (fun x6 i6 h => ?_)
    obtain ⟨c7, h⟩ := h
    refine ok_cVv (rest := []) o_rc 8 [.int x6] dX8_writeGain_41 k8_43 c7 rfl rfl (Nat.le_of_ble_eq_true rfl) h (fun i8 h => ?_)
    refine ok_iload_n 3 dX8_writeGain_44 rfl rfl ?_
    refine ok_iconst 4 dX8_writeGain_45 (by decide) ?_
    refine ok_idiv dX8_writeGain_46 (by decide) ?_
    refine ok_topi (fun x9 ex9 => ?_)
    replace h := h x9 ex9
    refine ok_istore_n 3 dX8_writeGain_47 rfl (by decide) [some (.ref v0), some (.int v1), none, some (.int x9)] rfl ?_
    refine ok_goto 26 dX8_writeGain_48 (by decide) ?_
    exact h


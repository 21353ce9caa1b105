/-! THE PLAIN CONSTRUCTORS, over the growing world (printed by wip/mk3.py) -/
set_option maxRecDepth 100000 in
set_option maxHeartbeats 4000000 in
theorem nt_Text {G : o_G} {x d n t : Nat} {i : o_I} {r : n_R} {N : Nat} (hN : N ≤ 100000) (hI0 : n_I G x n i r) (hx : x ≤ t) (ht : t < x + n) (hsh : o_S G t = (0, 9)) (hs0 : o_S G (x + n) = (2, N)) : NSp G x (d + 1) n (n + 1) mX9_init [.ref t, .int (nI N)] (fun j q => n_I G x (n + 1) j q ∧ (∀ a k, a ≠ t → q a k = r a k) ∧ q t 0 = some (x + n)) i r := by
  refine nsp_of 0 (by decide +kernel) (Nat.le_of_ble_eq_true rfl) rfl (by omega) ?_
  refine nk_aload_n 0 dX9_init_0 rfl rfl ?_
  refine nk_obj n_rc dX9_init_1 w_ob9 w_obj1 w_obj2 (Nat.le_of_ble_eq_true rfl) ?_
  refine nk_aload_n 0 dX9_init_4 rfl rfl ?_
  refine nk_iconst 0 dX9_init_5 (by decide) ?_
  refine nk_puti 9 1 .int dX9_init_6 f9_7 rfl (Or.inl rfl) (by decide +kernel) rfl rfl hx (by omega) hsh ?_
  have hI1 := hI0.up0 (a := t) (k := 1)
  refine nk_aload_n 0 dX9_init_9 rfl rfl ?_
  refine nk_iload_n 1 dX9_init_10 rfl rfl ?_
  refine nk_newc N dX9_init_11 w_ac2 rfl (by omega) (by omega) hs0 (fun k => (hI1.1 _ k (by omega)).1) ?_
  have hI2 := hI1.le (show n ≤ n + 1 by omega)
  refine nk_putr 9 0 (.array .char) dX9_init_13 f9_13 rfl (Or.inr ⟨rfl, rfl, rfl⟩) (by decide +kernel) rfl rfl hx (by omega) hsh ?_
  have hI3 := hI2.upr (a := t) (k := 0) (y := (x + n)) (by omega)
  refine nk_vret dX9_init_16 rfl rfl ?_
  refine ⟨hI3, fun a k ha => ?_, ?_⟩
  · simp only [n_up, ha, false_and, if_false]
  · simp [n_up]
set_option maxRecDepth 100000 in
set_option maxHeartbeats 4000000 in
theorem nt_Parser {G : o_G} {x d n t : Nat} {i : o_I} {r : n_R} {src : Nat} (hI0 : n_I G x n i r) (hx : x ≤ t) (ht : t < x + n) (hsh : o_S G t = (0, 3))  : NSp G x (d + 1) n n mX3_init [.ref t, .ref src] (fun j q => n_I G x n j q ∧ (∀ a k, a ≠ t → q a k = r a k) ∧ q t 0 = some (src)) i r := by
  refine nsp_of 0 (by decide +kernel) (Nat.le_of_ble_eq_true rfl) rfl (by omega) ?_
  refine nk_aload_n 0 dX3_init_0 rfl rfl ?_
  refine nk_obj n_rc dX3_init_1 w_ob3 w_obj1 w_obj2 (Nat.le_of_ble_eq_true rfl) ?_
  refine nk_aload_n 0 dX3_init_4 rfl rfl ?_
  refine nk_iconst 0 dX3_init_5 (by decide) ?_
  refine nk_puti 3 1 .int dX3_init_6 f3_9 rfl (Or.inl rfl) (by decide +kernel) rfl rfl hx (by omega) hsh ?_
  have hI1 := hI0.up0 (a := t) (k := 1)
  refine nk_aload_n 0 dX3_init_9 rfl rfl ?_
  refine nk_iconst 0 dX3_init_10 (by decide) ?_
  refine nk_puti 3 2 .boolean dX3_init_11 f3_15 rfl (Or.inl rfl) (by decide +kernel) rfl rfl hx (by omega) hsh ?_
  have hI2 := hI1.up0 (a := t) (k := 2)
  refine nk_aload_n 0 dX3_init_14 rfl rfl ?_
  refine nk_aload_n 1 dX3_init_15 rfl rfl ?_
  refine nk_putr 3 0 (.object "ReadCaller$Text") dX3_init_16 f3_19 rfl (Or.inr ⟨rfl, rfl, rfl⟩) (by decide +kernel) rfl rfl hx (by omega) hsh ?_
  have hI3 := hI2.upr (a := t) (k := 0) (y := src) (by omega)
  refine nk_vret dX3_init_19 rfl rfl ?_
  refine ⟨hI3, fun a k ha => ?_, ?_⟩
  · simp only [n_up, ha, false_and, if_false]
  · simp [n_up]
set_option maxRecDepth 100000 in
set_option maxHeartbeats 4000000 in
theorem nt_Site {G : o_G} {x d n t : Nat} {i : o_I} {r : n_R}  (hI0 : n_I G x n i r) (hx : x ≤ t) (ht : t < x + n) (hsh : o_S G t = (0, 7)) (hs0 : o_S G (x + n) = (1, 8)) (hs1 : o_S G (x + (n + 1)) = (1, 8)) : NSp G x (d + 1) n (n + 2) mX7_init [.ref t] (fun j q => n_I G x (n + 2) j q ∧ (∀ a k, a ≠ t → q a k = r a k) ∧ q t 0 = some (x + n) ∧ q t 1 = some (x + (n + 1))) i r := by
  refine nsp_of 0 (by decide +kernel) (Nat.le_of_ble_eq_true rfl) rfl (by omega) ?_
  refine nk_aload_n 0 dX7_init_0 rfl rfl ?_
  refine nk_obj n_rc dX7_init_1 w_ob7 w_obj1 w_obj2 (Nat.le_of_ble_eq_true rfl) ?_
  refine nk_aload_n 0 dX7_init_4 rfl rfl ?_
  refine nk_bipush 8 dX7_init_5 (by decide) ?_
  refine nk_newi 8 dX7_init_7 w_ac1 rfl (by omega) (by omega) hs0 (fun k => (hI0.1 _ k (by omega)).1) ?_
  have hI1 := hI0.le (show n ≤ n + 1 by omega)
  refine nk_putr 7 0 (.array .int) dX7_init_9 f7_9 rfl (Or.inr ⟨rfl, rfl, rfl⟩) (by decide +kernel) rfl rfl hx (by omega) hsh ?_
  have hI2 := hI1.upr (a := t) (k := 0) (y := (x + n)) (by omega)
  refine nk_aload_n 0 dX7_init_12 rfl rfl ?_
  refine nk_bipush 8 dX7_init_13 (by decide) ?_
  refine nk_newi 8 dX7_init_15 w_ac1 rfl (by omega) (by omega) hs1 (fun k => (hI2.1 _ k (by omega)).1) ?_
  have hI3 := hI2.le (show n + 1 ≤ n + 2 by omega)
  refine nk_putr 7 1 (.array .int) dX7_init_17 f7_15 rfl (Or.inr ⟨rfl, rfl, rfl⟩) (by decide +kernel) rfl rfl hx (by omega) hsh ?_
  have hI4 := hI3.upr (a := t) (k := 1) (y := (x + (n + 1))) (by omega)
  refine nk_aload_n 0 dX7_init_20 rfl rfl ?_
  refine nk_iconst 0 dX7_init_21 (by decide) ?_
  refine nk_puti 7 2 .int dX7_init_22 f7_18 rfl (Or.inl rfl) (by decide +kernel) rfl rfl hx (by omega) hsh ?_
  have hI5 := hI4.up0 (a := t) (k := 2)
  refine nk_vret dX7_init_25 rfl rfl ?_
  refine ⟨hI5, fun a k ha => ?_, ?_, ?_⟩
  · simp only [n_up, ha, false_and, if_false]
  · simp [n_up]
  · simp [n_up]
set_option maxRecDepth 100000 in
set_option maxHeartbeats 4000000 in
theorem nt_Read {G : o_G} {x d n t : Nat} {i : o_I} {r : n_R}  (hI0 : n_I G x n i r) (hx : x ≤ t) (ht : t < x + n) (hsh : o_S G t = (0, 5)) (hs0 : o_S G (x + n) = (1, 16)) (hs1 : o_S G (x + (n + 1)) = (1, 16)) (hs2 : o_S G (x + (n + 2)) = (1, 19)) : NSp G x (d + 1) n (n + 3) mX5_init [.ref t] (fun j q => n_I G x (n + 3) j q ∧ (∀ a k, a ≠ t → q a k = r a k) ∧ q t 0 = some (x + n) ∧ q t 1 = some (x + (n + 1)) ∧ q t 8 = some (x + (n + 2))) i r := by
  refine nsp_of 0 (by decide +kernel) (Nat.le_of_ble_eq_true rfl) rfl (by omega) ?_
  refine nk_aload_n 0 dX5_init_0 rfl rfl ?_
  refine nk_obj n_rc dX5_init_1 w_ob5 w_obj1 w_obj2 (Nat.le_of_ble_eq_true rfl) ?_
  refine nk_aload_n 0 dX5_init_4 rfl rfl ?_
  refine nk_bipush 16 dX5_init_5 (by decide) ?_
  refine nk_newi 16 dX5_init_7 w_ac1 rfl (by omega) (by omega) hs0 (fun k => (hI0.1 _ k (by omega)).1) ?_
  have hI1 := hI0.le (show n ≤ n + 1 by omega)
  refine nk_putr 5 0 (.array .int) dX5_init_9 f5_9 rfl (Or.inr ⟨rfl, rfl, rfl⟩) (by decide +kernel) rfl rfl hx (by omega) hsh ?_
  have hI2 := hI1.upr (a := t) (k := 0) (y := (x + n)) (by omega)
  refine nk_aload_n 0 dX5_init_12 rfl rfl ?_
  refine nk_bipush 16 dX5_init_13 (by decide) ?_
  refine nk_newi 16 dX5_init_15 w_ac1 rfl (by omega) (by omega) hs1 (fun k => (hI2.1 _ k (by omega)).1) ?_
  have hI3 := hI2.le (show n + 1 ≤ n + 2 by omega)
  refine nk_putr 5 1 (.array .int) dX5_init_17 f5_15 rfl (Or.inr ⟨rfl, rfl, rfl⟩) (by decide +kernel) rfl rfl hx (by omega) hsh ?_
  have hI4 := hI3.upr (a := t) (k := 1) (y := (x + (n + 1))) (by omega)
  refine nk_aload_n 0 dX5_init_20 rfl rfl ?_
  refine nk_iconst 0 dX5_init_21 (by decide) ?_
  refine nk_puti 5 2 .int dX5_init_22 f5_18 rfl (Or.inl rfl) (by decide +kernel) rfl rfl hx (by omega) hsh ?_
  have hI5 := hI4.up0 (a := t) (k := 2)
  refine nk_aload_n 0 dX5_init_25 rfl rfl ?_
  refine nk_iconst 1 dX5_init_26 (by decide) ?_
  refine nk_puti 5 3 .int dX5_init_27 f5_22 rfl (Or.inl rfl) (by decide +kernel) rfl rfl hx (by omega) hsh ?_
  have hI6 := hI5.up1 (a := t) hsh (by omega)
  refine nk_aload_n 0 dX5_init_30 rfl rfl ?_
  refine nk_iconst 0 dX5_init_31 (by decide) ?_
  refine nk_puti 5 4 .int dX5_init_32 f5_25 rfl (Or.inl rfl) (by decide +kernel) rfl rfl hx (by omega) hsh ?_
  have hI7 := hI6.up0 (a := t) (k := 4)
  refine nk_aload_n 0 dX5_init_35 rfl rfl ?_
  refine nk_iconst 0 dX5_init_36 (by decide) ?_
  refine nk_puti 5 5 .int dX5_init_37 f5_28 rfl (Or.inl rfl) (by decide +kernel) rfl rfl hx (by omega) hsh ?_
  have hI8 := hI7.up0 (a := t) (k := 5)
  refine nk_aload_n 0 dX5_init_40 rfl rfl ?_
  refine nk_iconst 0 dX5_init_41 (by decide) ?_
  refine nk_puti 5 6 .int dX5_init_42 f5_31 rfl (Or.inl rfl) (by decide +kernel) rfl rfl hx (by omega) hsh ?_
  have hI9 := hI8.up0 (a := t) (k := 6)
  refine nk_aload_n 0 dX5_init_45 rfl rfl ?_
  refine nk_iconst 0 dX5_init_46 (by decide) ?_
  refine nk_puti 5 7 .boolean dX5_init_47 f5_34 rfl (Or.inl rfl) (by decide +kernel) rfl rfl hx (by omega) hsh ?_
  have hI10 := hI9.up0 (a := t) (k := 7)
  refine nk_aload_n 0 dX5_init_50 rfl rfl ?_
  refine nk_bipush 19 dX5_init_51 (by decide) ?_
  refine nk_newi 19 dX5_init_53 w_ac1 rfl (by omega) (by omega) hs2 (fun k => (hI10.1 _ k (by omega)).1) ?_
  have hI11 := hI10.le (show n + 2 ≤ n + 3 by omega)
  refine nk_putr 5 8 (.array .int) dX5_init_55 f5_38 rfl (Or.inr ⟨rfl, rfl, rfl⟩) (by decide +kernel) rfl rfl hx (by omega) hsh ?_
  have hI12 := hI11.upr (a := t) (k := 8) (y := (x + (n + 2))) (by omega)
  refine nk_aload_n 0 dX5_init_58 rfl rfl ?_
  refine nk_iconst 0 dX5_init_59 (by decide) ?_
  refine nk_puti 5 9 .int dX5_init_60 f5_41 rfl (Or.inl rfl) (by decide +kernel) rfl rfl hx (by omega) hsh ?_
  have hI13 := hI12.up0 (a := t) (k := 9)
  refine nk_vret dX5_init_63 rfl rfl ?_
  refine ⟨hI13, fun a k ha => ?_, ?_, ?_, ?_⟩
  · simp only [n_up, ha, false_and, if_false]
  · simp [n_up]
  · simp [n_up]
  · simp [n_up]
set_option maxRecDepth 100000 in
set_option maxHeartbeats 4000000 in
theorem nt_Table {G : o_G} {x d n t : Nat} {i : o_I} {r : n_R}  (hI0 : n_I G x n i r) (hx : x ≤ t) (ht : t < x + n) (hsh : o_S G t = (0, 8)) (hs0 : o_S G (x + n) = (2, 2229)) : NSp G x (d + 1) n (n + 1) mX8_init [.ref t] (fun j q => n_I G x (n + 1) j q ∧ (∀ a k, a ≠ t → q a k = r a k) ∧ q t 0 = some (x + n)) i r := by
  refine nsp_of 0 (by decide +kernel) (Nat.le_of_ble_eq_true rfl) rfl (by omega) ?_
  refine nk_aload_n 0 dX8_init_0 rfl rfl ?_
  refine nk_obj n_rc dX8_init_1 w_ob8 w_obj1 w_obj2 (Nat.le_of_ble_eq_true rfl) ?_
  refine nk_aload_n 0 dX8_init_4 rfl rfl ?_
  refine nk_sipush 2229 dX8_init_5 (by decide) ?_
  refine nk_newc 2229 dX8_init_8 w_ac2 rfl (by omega) (by omega) hs0 (fun k => (hI0.1 _ k (by omega)).1) ?_
  have hI1 := hI0.le (show n ≤ n + 1 by omega)
  refine nk_putr 8 0 (.array .char) dX8_init_10 f8_11 rfl (Or.inr ⟨rfl, rfl, rfl⟩) (by decide +kernel) rfl rfl hx (by omega) hsh ?_
  have hI2 := hI1.upr (a := t) (k := 0) (y := (x + n)) (by omega)
  refine nk_aload_n 0 dX8_init_13 rfl rfl ?_
  refine nk_iconst 0 dX8_init_14 (by decide) ?_
  refine nk_puti 8 1 .int dX8_init_15 f8_15 rfl (Or.inl rfl) (by decide +kernel) rfl rfl hx (by omega) hsh ?_
  have hI3 := hI2.up0 (a := t) (k := 1)
  refine nk_vret dX8_init_18 rfl rfl ?_
  refine ⟨hI3, fun a k ha => ?_, ?_⟩
  · simp only [n_up, ha, false_and, if_false]
  · simp [n_up]
set_option maxRecDepth 100000 in
set_option maxHeartbeats 4000000 in
theorem nt_Judge {G : o_G} {x d n t : Nat} {i : o_I} {r : n_R} {tb : Nat} {f : Nat → Value} (hgs : ∀ U : State, o_E G U → va_Z "ReadCaller$Judge" "FIRST_OF_PAIR" "[I" (.ref tb) (n_A x) U U.heap) (htl : ∀ U : State, o_E G U → va_T .int tb 6 f (n_A x) U U.heap) (hI0 : n_I G x n i r) (hx : x ≤ t) (ht : t < x + n) (hsh : o_S G t = (0, 2)) (hs0 : o_S G (x + n) = (1, 3)) (hs1 : o_S G (x + (n + 1)) = (1, 3)) (hs2 : o_S G (x + (n + 2)) = (1, 6)) : NSp G x (d + 1) n (n + 3) mX2_init [.ref t] (fun j q => n_I G x (n + 3) j q ∧ (∀ a k, a ≠ t → q a k = r a k) ∧ q t 0 = some (x + n) ∧ q t 1 = some (x + (n + 1)) ∧ q t 3 = some (x + (n + 2))) i r := by
  refine nsp_of 0 (by decide +kernel) (Nat.le_of_ble_eq_true rfl) rfl (by omega) ?_
  refine nk_aload_n 0 dX2_init_0 rfl rfl ?_
  refine nk_obj n_rc dX2_init_1 w_ob2 w_obj1 w_obj2 (Nat.le_of_ble_eq_true rfl) ?_
  refine nk_aload_n 0 dX2_init_4 rfl rfl ?_
  refine nk_iconst 3 dX2_init_5 (by decide) ?_
  refine nk_newi 3 dX2_init_6 w_ac1 rfl (by omega) (by omega) hs0 (fun k => (hI0.1 _ k (by omega)).1) ?_
  have hI1 := hI0.le (show n ≤ n + 1 by omega)
  refine nk_putr 2 0 (.array .int) dX2_init_8 f2_11 rfl (Or.inr ⟨rfl, rfl, rfl⟩) (by decide +kernel) rfl rfl hx (by omega) hsh ?_
  have hI2 := hI1.upr (a := t) (k := 0) (y := (x + n)) (by omega)
  refine nk_aload_n 0 dX2_init_11 rfl rfl ?_
  refine nk_iconst 3 dX2_init_12 (by decide) ?_
  refine nk_newi 3 dX2_init_13 w_ac1 rfl (by omega) (by omega) hs1 (fun k => (hI2.1 _ k (by omega)).1) ?_
  have hI3 := hI2.le (show n + 1 ≤ n + 2 by omega)
  refine nk_putr 2 1 (.array .int) dX2_init_15 f2_15 rfl (Or.inr ⟨rfl, rfl, rfl⟩) (by decide +kernel) rfl rfl hx (by omega) hsh ?_
  have hI4 := hI3.upr (a := t) (k := 1) (y := (x + (n + 1))) (by omega)
  refine nk_aload_n 0 dX2_init_18 rfl rfl ?_
  refine nk_iconst 0 dX2_init_19 (by decide) ?_
  refine nk_puti 2 2 .int dX2_init_20 f2_18 rfl (Or.inl rfl) (by decide +kernel) rfl rfl hx (by omega) hsh ?_
  have hI5 := hI4.up0 (a := t) (k := 2)
  refine nk_aload_n 0 dX2_init_23 rfl rfl ?_
  refine nk_gets "ReadCaller$Judge" "FIRST_OF_PAIR" "[I" dX2_init_24 hgs w_gs2_22 ?_
  refine nk_tlen dX2_init_27 htl ?_
  refine nk_newi 6 dX2_init_28 w_ac1 rfl (by omega) (by omega) hs2 (fun k => (hI5.1 _ k (by omega)).1) ?_
  have hI6 := hI5.le (show n + 2 ≤ n + 3 by omega)
  refine nk_putr 2 3 (.array .int) dX2_init_30 f2_25 rfl (Or.inr ⟨rfl, rfl, rfl⟩) (by decide +kernel) rfl rfl hx (by omega) hsh ?_
  have hI7 := hI6.upr (a := t) (k := 3) (y := (x + (n + 2))) (by omega)
  refine nk_aload_n 0 dX2_init_33 rfl rfl ?_
  refine nk_iconst 0 dX2_init_34 (by decide) ?_
  refine nk_puti 2 4 .int dX2_init_35 f2_28 rfl (Or.inl rfl) (by decide +kernel) rfl rfl hx (by omega) hsh ?_
  have hI8 := hI7.up0 (a := t) (k := 4)
  refine nk_aload_n 0 dX2_init_38 rfl rfl ?_
  refine nk_iconst 0 dX2_init_39 (by decide) ?_
  refine nk_puti 2 5 .int dX2_init_40 f2_31 rfl (Or.inl rfl) (by decide +kernel) rfl rfl hx (by omega) hsh ?_
  have hI9 := hI8.up0 (a := t) (k := 5)
  refine nk_aload_n 0 dX2_init_43 rfl rfl ?_
  refine nk_iconst 0 dX2_init_44 (by decide) ?_
  refine nk_puti 2 6 .int dX2_init_45 f2_34 rfl (Or.inl rfl) (by decide +kernel) rfl rfl hx (by omega) hsh ?_
  have hI10 := hI9.up0 (a := t) (k := 6)
  refine nk_vret dX2_init_48 rfl rfl ?_
  refine ⟨hI10, fun a k ha => ?_, ?_, ?_, ?_⟩
  · simp only [n_up, ha, false_and, if_false]
  · simp [n_up]
  · simp [n_up]
  · simp [n_up]
set_option maxRecDepth 100000 in
set_option maxHeartbeats 4000000 in
theorem nt_Model {G : o_G} {x d n t : Nat} {i : o_I} {r : n_R}  (hI0 : n_I G x n i r) (hx : x ≤ t) (ht : t < x + n) (hsh : o_S G t = (0, 10)) (hs0 : o_S G (x + n) = (2, 520)) (hs1 : o_S G (x + (n + 1)) = (1, 2)) (hs2 : o_S G (x + (n + 2)) = (1, 48)) (hs3 : o_S G (x + (n + 3)) = (2, 8)) (hs4 : o_S G (x + (n + 4)) = (1, 8)) (hs5 : o_S G (x + (n + 5)) = (1, 128)) (hs6 : o_S G (x + (n + 6)) = (1, 128)) (hs7 : o_S G (x + (n + 7)) = (1, 8)) (hs8 : o_S G (x + (n + 8)) = (1, 8)) (hs9 : o_S G (x + (n + 9)) = (1, 8)) (hs10 : o_S G (x + (n + 10)) = (1, 8)) (hs11 : o_S G (x + (n + 11)) = (1, 8)) (hs12 : o_S G (x + (n + 12)) = (1, 8)) (hs13 : o_S G (x + (n + 13)) = (1, 320)) (hs14 : o_S G (x + (n + 14)) = (1, 16)) (hs15 : o_S G (x + (n + 15)) = (1, 16)) (hs16 : o_S G (x + (n + 16)) = (1, 340)) (hs17 : o_S G (x + (n + 17)) = (1, 128)) (hs18 : o_S G (x + (n + 18)) = (1, 128)) (hs19 : o_S G (x + (n + 19)) = (1, 128)) (hs20 : o_S G (x + (n + 20)) = (1, 128)) (hs21 : o_S G (x + (n + 21)) = (1, 128)) (hs22 : o_S G (x + (n + 22)) = (1, 128)) (hs23 : o_S G (x + (n + 23)) = (1, 3)) (hs24 : o_S G (x + (n + 24)) = (1, 104)) (hs25 : o_S G (x + (n + 25)) = (1, 6)) : NSp G x (d + 1) n (n + 26) mX10_init [.ref t] (fun j q => n_I G x (n + 26) j q ∧ (∀ a k, a ≠ t → q a k = r a k) ∧ q t 0 = some (x + n) ∧ q t 1 = some (x + (n + 1)) ∧ q t 3 = some (x + (n + 2)) ∧ q t 5 = some (x + (n + 3)) ∧ q t 7 = some (x + (n + 4)) ∧ q t 8 = some (x + (n + 5)) ∧ q t 9 = some (x + (n + 6)) ∧ q t 10 = some (x + (n + 7)) ∧ q t 11 = some (x + (n + 8)) ∧ q t 12 = some (x + (n + 9)) ∧ q t 13 = some (x + (n + 10)) ∧ q t 14 = some (x + (n + 11)) ∧ q t 15 = some (x + (n + 12)) ∧ q t 16 = some (x + (n + 13)) ∧ q t 17 = some (x + (n + 14)) ∧ q t 18 = some (x + (n + 15)) ∧ q t 19 = some (x + (n + 16)) ∧ q t 21 = some (x + (n + 17)) ∧ q t 22 = some (x + (n + 18)) ∧ q t 23 = some (x + (n + 19)) ∧ q t 25 = some (x + (n + 20)) ∧ q t 26 = some (x + (n + 21)) ∧ q t 27 = some (x + (n + 22)) ∧ q t 32 = some (x + (n + 23)) ∧ q t 33 = some (x + (n + 24)) ∧ q t 34 = some (x + (n + 25))) i r := by
  refine nsp_of 0 (by decide +kernel) (Nat.le_of_ble_eq_true rfl) rfl (by omega) ?_
  refine nk_aload_n 0 dX10_init_0 rfl rfl ?_
  refine nk_obj n_rc dX10_init_1 w_ob10 w_obj1 w_obj2 (Nat.le_of_ble_eq_true rfl) ?_
  refine nk_aload_n 0 dX10_init_4 rfl rfl ?_
  refine nk_sipush 520 dX10_init_5 (by decide) ?_
  refine nk_newc 520 dX10_init_8 w_ac2 rfl (by omega) (by omega) hs0 (fun k => (hI0.1 _ k (by omega)).1) ?_
  have hI1 := hI0.le (show n ≤ n + 1 by omega)
  refine nk_putr 10 0 (.array .char) dX10_init_10 f10_7 rfl (Or.inr ⟨rfl, rfl, rfl⟩) (by decide +kernel) rfl rfl hx (by omega) hsh ?_
  have hI2 := hI1.upr (a := t) (k := 0) (y := (x + n)) (by omega)
  refine nk_aload_n 0 dX10_init_13 rfl rfl ?_
  refine nk_iconst 2 dX10_init_14 (by decide) ?_
  refine nk_newi 2 dX10_init_15 w_ac1 rfl (by omega) (by omega) hs1 (fun k => (hI2.1 _ k (by omega)).1) ?_
  have hI3 := hI2.le (show n + 1 ≤ n + 2 by omega)
  refine nk_putr 10 1 (.array .int) dX10_init_17 f10_13 rfl (Or.inr ⟨rfl, rfl, rfl⟩) (by decide +kernel) rfl rfl hx (by omega) hsh ?_
  have hI4 := hI3.upr (a := t) (k := 1) (y := (x + (n + 1))) (by omega)
  refine nk_aload_n 0 dX10_init_20 rfl rfl ?_
  refine nk_bipush 48 dX10_init_21 (by decide) ?_
  refine nk_newi 48 dX10_init_23 w_ac1 rfl (by omega) (by omega) hs2 (fun k => (hI4.1 _ k (by omega)).1) ?_
  have hI5 := hI4.le (show n + 2 ≤ n + 3 by omega)
  refine nk_putr 10 3 (.array .int) dX10_init_25 f10_17 rfl (Or.inr ⟨rfl, rfl, rfl⟩) (by decide +kernel) rfl rfl hx (by omega) hsh ?_
  have hI6 := hI5.upr (a := t) (k := 3) (y := (x + (n + 2))) (by omega)
  refine nk_aload_n 0 dX10_init_28 rfl rfl ?_
  refine nk_bipush 8 dX10_init_29 (by decide) ?_
  refine nk_newc 8 dX10_init_31 w_ac2 rfl (by omega) (by omega) hs3 (fun k => (hI6.1 _ k (by omega)).1) ?_
  have hI7 := hI6.le (show n + 3 ≤ n + 4 by omega)
  refine nk_putr 10 5 (.array .char) dX10_init_33 f10_20 rfl (Or.inr ⟨rfl, rfl, rfl⟩) (by decide +kernel) rfl rfl hx (by omega) hsh ?_
  have hI8 := hI7.upr (a := t) (k := 5) (y := (x + (n + 3))) (by omega)
  refine nk_aload_n 0 dX10_init_36 rfl rfl ?_
  refine nk_bipush 8 dX10_init_37 (by decide) ?_
  refine nk_newi 8 dX10_init_39 w_ac1 rfl (by omega) (by omega) hs4 (fun k => (hI8.1 _ k (by omega)).1) ?_
  have hI9 := hI8.le (show n + 4 ≤ n + 5 by omega)
  refine nk_putr 10 7 (.array .int) dX10_init_41 f10_23 rfl (Or.inr ⟨rfl, rfl, rfl⟩) (by decide +kernel) rfl rfl hx (by omega) hsh ?_
  have hI10 := hI9.upr (a := t) (k := 7) (y := (x + (n + 4))) (by omega)
  refine nk_aload_n 0 dX10_init_44 rfl rfl ?_
  refine nk_sipush 128 dX10_init_45 (by decide) ?_
  refine nk_newi 128 dX10_init_48 w_ac1 rfl (by omega) (by omega) hs5 (fun k => (hI10.1 _ k (by omega)).1) ?_
  have hI11 := hI10.le (show n + 5 ≤ n + 6 by omega)
  refine nk_putr 10 8 (.array .int) dX10_init_50 f10_26 rfl (Or.inr ⟨rfl, rfl, rfl⟩) (by decide +kernel) rfl rfl hx (by omega) hsh ?_
  have hI12 := hI11.upr (a := t) (k := 8) (y := (x + (n + 5))) (by omega)
  refine nk_aload_n 0 dX10_init_53 rfl rfl ?_
  refine nk_sipush 128 dX10_init_54 (by decide) ?_
  refine nk_newi 128 dX10_init_57 w_ac1 rfl (by omega) (by omega) hs6 (fun k => (hI12.1 _ k (by omega)).1) ?_
  have hI13 := hI12.le (show n + 6 ≤ n + 7 by omega)
  refine nk_putr 10 9 (.array .int) dX10_init_59 f10_29 rfl (Or.inr ⟨rfl, rfl, rfl⟩) (by decide +kernel) rfl rfl hx (by omega) hsh ?_
  have hI14 := hI13.upr (a := t) (k := 9) (y := (x + (n + 6))) (by omega)
  refine nk_aload_n 0 dX10_init_62 rfl rfl ?_
  refine nk_bipush 8 dX10_init_63 (by decide) ?_
  refine nk_newi 8 dX10_init_65 w_ac1 rfl (by omega) (by omega) hs7 (fun k => (hI14.1 _ k (by omega)).1) ?_
  have hI15 := hI14.le (show n + 7 ≤ n + 8 by omega)
  refine nk_putr 10 10 (.array .int) dX10_init_67 f10_32 rfl (Or.inr ⟨rfl, rfl, rfl⟩) (by decide +kernel) rfl rfl hx (by omega) hsh ?_
  have hI16 := hI15.upr (a := t) (k := 10) (y := (x + (n + 7))) (by omega)
  refine nk_aload_n 0 dX10_init_70 rfl rfl ?_
  refine nk_bipush 8 dX10_init_71 (by decide) ?_
  refine nk_newi 8 dX10_init_73 w_ac1 rfl (by omega) (by omega) hs8 (fun k => (hI16.1 _ k (by omega)).1) ?_
  have hI17 := hI16.le (show n + 8 ≤ n + 9 by omega)
  refine nk_putr 10 11 (.array .int) dX10_init_75 f10_35 rfl (Or.inr ⟨rfl, rfl, rfl⟩) (by decide +kernel) rfl rfl hx (by omega) hsh ?_
  have hI18 := hI17.upr (a := t) (k := 11) (y := (x + (n + 8))) (by omega)
  refine nk_aload_n 0 dX10_init_78 rfl rfl ?_
  refine nk_bipush 8 dX10_init_79 (by decide) ?_
  refine nk_newi 8 dX10_init_81 w_ac1 rfl (by omega) (by omega) hs9 (fun k => (hI18.1 _ k (by omega)).1) ?_
  have hI19 := hI18.le (show n + 9 ≤ n + 10 by omega)
  refine nk_putr 10 12 (.array .int) dX10_init_83 f10_38 rfl (Or.inr ⟨rfl, rfl, rfl⟩) (by decide +kernel) rfl rfl hx (by omega) hsh ?_
  have hI20 := hI19.upr (a := t) (k := 12) (y := (x + (n + 9))) (by omega)
  refine nk_aload_n 0 dX10_init_86 rfl rfl ?_
  refine nk_bipush 8 dX10_init_87 (by decide) ?_
  refine nk_newi 8 dX10_init_89 w_ac1 rfl (by omega) (by omega) hs10 (fun k => (hI20.1 _ k (by omega)).1) ?_
  have hI21 := hI20.le (show n + 10 ≤ n + 11 by omega)
  refine nk_putr 10 13 (.array .int) dX10_init_91 f10_41 rfl (Or.inr ⟨rfl, rfl, rfl⟩) (by decide +kernel) rfl rfl hx (by omega) hsh ?_
  have hI22 := hI21.upr (a := t) (k := 13) (y := (x + (n + 10))) (by omega)
  refine nk_aload_n 0 dX10_init_94 rfl rfl ?_
  refine nk_bipush 8 dX10_init_95 (by decide) ?_
  refine nk_newi 8 dX10_init_97 w_ac1 rfl (by omega) (by omega) hs11 (fun k => (hI22.1 _ k (by omega)).1) ?_
  have hI23 := hI22.le (show n + 11 ≤ n + 12 by omega)
  refine nk_putr 10 14 (.array .int) dX10_init_99 f10_44 rfl (Or.inr ⟨rfl, rfl, rfl⟩) (by decide +kernel) rfl rfl hx (by omega) hsh ?_
  have hI24 := hI23.upr (a := t) (k := 14) (y := (x + (n + 11))) (by omega)
  refine nk_aload_n 0 dX10_init_102 rfl rfl ?_
  refine nk_bipush 8 dX10_init_103 (by decide) ?_
  refine nk_newi 8 dX10_init_105 w_ac1 rfl (by omega) (by omega) hs12 (fun k => (hI24.1 _ k (by omega)).1) ?_
  have hI25 := hI24.le (show n + 12 ≤ n + 13 by omega)
  refine nk_putr 10 15 (.array .int) dX10_init_107 f10_47 rfl (Or.inr ⟨rfl, rfl, rfl⟩) (by decide +kernel) rfl rfl hx (by omega) hsh ?_
  have hI26 := hI25.upr (a := t) (k := 15) (y := (x + (n + 12))) (by omega)
  refine nk_aload_n 0 dX10_init_110 rfl rfl ?_
  refine nk_sipush 320 dX10_init_111 (by decide) ?_
  refine nk_newi 320 dX10_init_114 w_ac1 rfl (by omega) (by omega) hs13 (fun k => (hI26.1 _ k (by omega)).1) ?_
  have hI27 := hI26.le (show n + 13 ≤ n + 14 by omega)
  refine nk_putr 10 16 (.array .int) dX10_init_116 f10_50 rfl (Or.inr ⟨rfl, rfl, rfl⟩) (by decide +kernel) rfl rfl hx (by omega) hsh ?_
  have hI28 := hI27.upr (a := t) (k := 16) (y := (x + (n + 13))) (by omega)
  refine nk_aload_n 0 dX10_init_119 rfl rfl ?_
  refine nk_bipush 16 dX10_init_120 (by decide) ?_
  refine nk_newi 16 dX10_init_122 w_ac1 rfl (by omega) (by omega) hs14 (fun k => (hI28.1 _ k (by omega)).1) ?_
  have hI29 := hI28.le (show n + 14 ≤ n + 15 by omega)
  refine nk_putr 10 17 (.array .int) dX10_init_124 f10_53 rfl (Or.inr ⟨rfl, rfl, rfl⟩) (by decide +kernel) rfl rfl hx (by omega) hsh ?_
  have hI30 := hI29.upr (a := t) (k := 17) (y := (x + (n + 14))) (by omega)
  refine nk_aload_n 0 dX10_init_127 rfl rfl ?_
  refine nk_bipush 16 dX10_init_128 (by decide) ?_
  refine nk_newi 16 dX10_init_130 w_ac1 rfl (by omega) (by omega) hs15 (fun k => (hI30.1 _ k (by omega)).1) ?_
  have hI31 := hI30.le (show n + 15 ≤ n + 16 by omega)
  refine nk_putr 10 18 (.array .int) dX10_init_132 f10_56 rfl (Or.inr ⟨rfl, rfl, rfl⟩) (by decide +kernel) rfl rfl hx (by omega) hsh ?_
  have hI32 := hI31.upr (a := t) (k := 18) (y := (x + (n + 15))) (by omega)
  refine nk_aload_n 0 dX10_init_135 rfl rfl ?_
  refine nk_sipush 340 dX10_init_136 (by decide) ?_
  refine nk_newi 340 dX10_init_139 w_ac1 rfl (by omega) (by omega) hs16 (fun k => (hI32.1 _ k (by omega)).1) ?_
  have hI33 := hI32.le (show n + 16 ≤ n + 17 by omega)
  refine nk_putr 10 19 (.array .int) dX10_init_141 f10_59 rfl (Or.inr ⟨rfl, rfl, rfl⟩) (by decide +kernel) rfl rfl hx (by omega) hsh ?_
  have hI34 := hI33.upr (a := t) (k := 19) (y := (x + (n + 16))) (by omega)
  refine nk_aload_n 0 dX10_init_144 rfl rfl ?_
  refine nk_sipush 128 dX10_init_145 (by decide) ?_
  refine nk_newi 128 dX10_init_148 w_ac1 rfl (by omega) (by omega) hs17 (fun k => (hI34.1 _ k (by omega)).1) ?_
  have hI35 := hI34.le (show n + 17 ≤ n + 18 by omega)
  refine nk_putr 10 21 (.array .int) dX10_init_150 f10_62 rfl (Or.inr ⟨rfl, rfl, rfl⟩) (by decide +kernel) rfl rfl hx (by omega) hsh ?_
  have hI36 := hI35.upr (a := t) (k := 21) (y := (x + (n + 17))) (by omega)
  refine nk_aload_n 0 dX10_init_153 rfl rfl ?_
  refine nk_sipush 128 dX10_init_154 (by decide) ?_
  refine nk_newi 128 dX10_init_157 w_ac1 rfl (by omega) (by omega) hs18 (fun k => (hI36.1 _ k (by omega)).1) ?_
  have hI37 := hI36.le (show n + 18 ≤ n + 19 by omega)
  refine nk_putr 10 22 (.array .int) dX10_init_159 f10_65 rfl (Or.inr ⟨rfl, rfl, rfl⟩) (by decide +kernel) rfl rfl hx (by omega) hsh ?_
  have hI38 := hI37.upr (a := t) (k := 22) (y := (x + (n + 18))) (by omega)
  refine nk_aload_n 0 dX10_init_162 rfl rfl ?_
  refine nk_sipush 128 dX10_init_163 (by decide) ?_
  refine nk_newi 128 dX10_init_166 w_ac1 rfl (by omega) (by omega) hs19 (fun k => (hI38.1 _ k (by omega)).1) ?_
  have hI39 := hI38.le (show n + 19 ≤ n + 20 by omega)
  refine nk_putr 10 23 (.array .int) dX10_init_168 f10_68 rfl (Or.inr ⟨rfl, rfl, rfl⟩) (by decide +kernel) rfl rfl hx (by omega) hsh ?_
  have hI40 := hI39.upr (a := t) (k := 23) (y := (x + (n + 19))) (by omega)
  refine nk_aload_n 0 dX10_init_171 rfl rfl ?_
  refine nk_sipush 128 dX10_init_172 (by decide) ?_
  refine nk_newi 128 dX10_init_175 w_ac1 rfl (by omega) (by omega) hs20 (fun k => (hI40.1 _ k (by omega)).1) ?_
  have hI41 := hI40.le (show n + 20 ≤ n + 21 by omega)
  refine nk_putr 10 25 (.array .int) dX10_init_177 f10_71 rfl (Or.inr ⟨rfl, rfl, rfl⟩) (by decide +kernel) rfl rfl hx (by omega) hsh ?_
  have hI42 := hI41.upr (a := t) (k := 25) (y := (x + (n + 20))) (by omega)
  refine nk_aload_n 0 dX10_init_180 rfl rfl ?_
  refine nk_sipush 128 dX10_init_181 (by decide) ?_
  refine nk_newi 128 dX10_init_184 w_ac1 rfl (by omega) (by omega) hs21 (fun k => (hI42.1 _ k (by omega)).1) ?_
  have hI43 := hI42.le (show n + 21 ≤ n + 22 by omega)
  refine nk_putr 10 26 (.array .int) dX10_init_186 f10_74 rfl (Or.inr ⟨rfl, rfl, rfl⟩) (by decide +kernel) rfl rfl hx (by omega) hsh ?_
  have hI44 := hI43.upr (a := t) (k := 26) (y := (x + (n + 21))) (by omega)
  refine nk_aload_n 0 dX10_init_189 rfl rfl ?_
  refine nk_sipush 128 dX10_init_190 (by decide) ?_
  refine nk_newi 128 dX10_init_193 w_ac1 rfl (by omega) (by omega) hs22 (fun k => (hI44.1 _ k (by omega)).1) ?_
  have hI45 := hI44.le (show n + 22 ≤ n + 23 by omega)
  refine nk_putr 10 27 (.array .int) dX10_init_195 f10_77 rfl (Or.inr ⟨rfl, rfl, rfl⟩) (by decide +kernel) rfl rfl hx (by omega) hsh ?_
  have hI46 := hI45.upr (a := t) (k := 27) (y := (x + (n + 22))) (by omega)
  refine nk_aload_n 0 dX10_init_198 rfl rfl ?_
  refine nk_iconst 3 dX10_init_199 (by decide) ?_
  refine nk_newi 3 dX10_init_200 w_ac1 rfl (by omega) (by omega) hs23 (fun k => (hI46.1 _ k (by omega)).1) ?_
  have hI47 := hI46.le (show n + 23 ≤ n + 24 by omega)
  refine nk_putr 10 32 (.array .int) dX10_init_202 f10_80 rfl (Or.inr ⟨rfl, rfl, rfl⟩) (by decide +kernel) rfl rfl hx (by omega) hsh ?_
  have hI48 := hI47.upr (a := t) (k := 32) (y := (x + (n + 23))) (by omega)
  refine nk_aload_n 0 dX10_init_205 rfl rfl ?_
  refine nk_bipush 104 dX10_init_206 (by decide) ?_
  refine nk_newi 104 dX10_init_208 w_ac1 rfl (by omega) (by omega) hs24 (fun k => (hI48.1 _ k (by omega)).1) ?_
  have hI49 := hI48.le (show n + 24 ≤ n + 25 by omega)
  refine nk_putr 10 33 (.array .int) dX10_init_210 f10_83 rfl (Or.inr ⟨rfl, rfl, rfl⟩) (by decide +kernel) rfl rfl hx (by omega) hsh ?_
  have hI50 := hI49.upr (a := t) (k := 33) (y := (x + (n + 24))) (by omega)
  refine nk_aload_n 0 dX10_init_213 rfl rfl ?_
  refine nk_bipush 6 dX10_init_214 (by decide) ?_
  refine nk_newi 6 dX10_init_216 w_ac1 rfl (by omega) (by omega) hs25 (fun k => (hI50.1 _ k (by omega)).1) ?_
  have hI51 := hI50.le (show n + 25 ≤ n + 26 by omega)
  refine nk_putr 10 34 (.array .int) dX10_init_218 f10_86 rfl (Or.inr ⟨rfl, rfl, rfl⟩) (by decide +kernel) rfl rfl hx (by omega) hsh ?_
  have hI52 := hI51.upr (a := t) (k := 34) (y := (x + (n + 25))) (by omega)
  refine nk_vret dX10_init_221 rfl rfl ?_
  refine ⟨hI52, fun a k ha => ?_, ?_, ?_, ?_, ?_, ?_, ?_, ?_, ?_, ?_, ?_, ?_, ?_, ?_, ?_, ?_, ?_, ?_, ?_, ?_, ?_, ?_, ?_, ?_, ?_, ?_, ?_⟩
  · simp only [n_up, ha, false_and, if_false]
  · simp [n_up]
  · simp [n_up]
  · simp [n_up]
  · simp [n_up]
  · simp [n_up]
  · simp [n_up]
  · simp [n_up]
  · simp [n_up]
  · simp [n_up]
  · simp [n_up]
  · simp [n_up]
  · simp [n_up]
  · simp [n_up]
  · simp [n_up]
  · simp [n_up]
  · simp [n_up]
  · simp [n_up]
  · simp [n_up]
  · simp [n_up]
  · simp [n_up]
  · simp [n_up]
  · simp [n_up]
  · simp [n_up]
  · simp [n_up]
  · simp [n_up]
  · simp [n_up]

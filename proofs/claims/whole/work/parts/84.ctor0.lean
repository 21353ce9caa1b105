/-! THE CONSTRUCTOR OF ReadCaller, and of what the cells of the class point to (printed by wip/mk4.py) -/
theorem sh_k {G : o_G} {x k : Nat} {q : Nat × Nat} (hS : o_S G = n_S x) (h : n_sh k = q) : o_S G (x + k) = q := by rw [hS, n_S_at, h]
def nl_sm (q : n_R) (s : Nat) : Prop := (q s 0 = some (s + 1) ∧ q s 2 = some (s + 2) ∧ q s 4 = some (s + 3)) ∧ ∀ z, z < 8 → q (s + 3) z = some (s + 4 + 4 * z) ∧ nl_rd q (s + 4 + 4 * z)
def nl_pi (q : n_R) (s : Nat) : Prop := (q s 0 = some (s + 1) ∧ q s 1 = some (s + 2)) ∧ (∀ p, p < 48 → q (s + 1) p = some (s + 3 + 6 * p) ∧ q (s + 2) p = some (s + 6 + 6 * p)) ∧ ∀ z, z < 96 → nl_st q (s + 3 + 3 * z)
def nl_cl (q : n_R) (x : Nat) : Prop := (q x 0 = some (x + 1) ∧ q x 1 = some (x + 3) ∧ q x 2 = some (x + 5) ∧ q x 3 = some (x + 6) ∧ q x 4 = some (x + 7) ∧ q x 5 = some (x + 26) ∧ q x 6 = some (x + 317) ∧ q x 7 = some (x + 321) ∧ q x 8 = some (x + 323) ∧ q x 9 = some (x + 359)) ∧ (q (x + 1) 0 = some (x + 2) ∧ q (x + 3) 0 = some (x + 4) ∧ q (x + 5) 0 = some (x + 1) ∧ q (x + 6) 0 = some (x + 3)) ∧ (q (x + 7) 0 = some (x + 8) ∧ ∀ z, z < 17 → q (x + 8) z = some (x + 9 + z)) ∧ nl_pi q (x + 26) ∧ (q (x + 317) 0 = some (x + 318) ∧ q (x + 317) 1 = some (x + 319) ∧ q (x + 317) 3 = some (x + 320)) ∧ q (x + 321) 0 = some (x + 322) ∧ nl_sm q (x + 323) ∧ nl_sm q (x + 359)
theorem nl_rd_e {q q2 : n_R} {s : Nat} (h : nl_rd q s) (e : ∀ k, q2 s k = q s k) : nl_rd q2 s := ⟨by rw [e]; exact h.1, by rw [e]; exact h.2.1, by rw [e]; exact h.2.2⟩
theorem nl_st_e {q q2 : n_R} {s : Nat} (h : nl_st q s) (e : ∀ k, q2 s k = q s k) : nl_st q2 s := ⟨by rw [e]; exact h.1, by rw [e]; exact h.2⟩
theorem nl_sm_e {q q2 : n_R} {s : Nat} (h : nl_sm q s) (e : ∀ a k, s ≤ a → a < s + 36 → q2 a k = q a k) : nl_sm q2 s := ⟨⟨by rw [e _ _ (by omega) (by omega)]; exact h.1.1, by rw [e _ _ (by omega) (by omega)]; exact h.1.2.1, by rw [e _ _ (by omega) (by omega)]; exact h.1.2.2⟩, fun z hz => ⟨by rw [e _ _ (by omega) (by omega)]; exact (h.2 z hz).1, nl_rd_e (h.2 z hz).2 (fun k => e _ _ (by omega) (by omega))⟩⟩
theorem nl_pi_e {q q2 : n_R} {s : Nat} (h : nl_pi q s) (e : ∀ a k, s ≤ a → a < s + 291 → q2 a k = q a k) : nl_pi q2 s := ⟨⟨by rw [e _ _ (by omega) (by omega)]; exact h.1.1, by rw [e _ _ (by omega) (by omega)]; exact h.1.2⟩, fun p hp => ⟨by rw [e _ _ (by omega) (by omega)]; exact (h.2.1 p hp).1, by rw [e _ _ (by omega) (by omega)]; exact (h.2.1 p hp).2⟩, fun z hz => nl_st_e (h.2.2 z hz) (fun k => e _ _ (by omega) (by omega))⟩
set_option maxRecDepth 100000 in
set_option maxHeartbeats 8000000 in
theorem nt_Caller {G : o_G} {x d tb : Nat} {f : Nat → Value} {i : o_I} {r : n_R} (hS : o_S G = n_S x) (hao1 : ∀ U : State, o_E G U → n_AO1 U) (haoS : ∀ U : State, o_E G U → va_AO "ReadCaller$Site" U) (haoR : ∀ U : State, o_E G U → va_AO "ReadCaller$Read" U) (hN1 : ∀ U : State, o_E G U → va_Nw (.methodLinkNest RX0 35 yX1_init "ReadCaller") U) (hN2 : ∀ U : State, o_E G U → va_Nw (.methodLinkNest RX0 49 yX2_init "ReadCaller") U) (hN3 : ∀ U : State, o_E G U → va_Nw (.methodLinkNest RX0 56 yX8_init "ReadCaller") U) (hN4 : ∀ U : State, o_E G U → va_Nw (.methodLinkNest RX4 20 yX7_init "ReadCaller") U) (hN5 : ∀ U : State, o_E G U → va_Nw (.methodLinkNest RX6 35 yX5_init "ReadCaller") U) (hgs : ∀ U : State, o_E G U → va_Z "ReadCaller$Judge" "FIRST_OF_PAIR" "[I" (.ref tb) (n_A x) U U.heap) (htl : ∀ U : State, o_E G U → va_T .int tb 6 f (n_A x) U U.heap) (hI0 : n_I G x 1 i r) : NSp G x (d + 3) 1 395 mX0_init [.ref x] (fun j q => n_I G x 395 j q ∧ nl_cl q x) i r := by
  have hx0 : o_S G x = (0, 0) := by rw [hS]; unfold n_S; rw [Nat.sub_self]; decide
  have kS : ∀ z, z < 96 → n_sh (27 + 2 + 3 * z) = (0, 7) ∧ n_sh (27 + 2 + 3 * z + 1) = (1, 8) ∧ n_sh (27 + 2 + 3 * z + 2) = (1, 8) := by decide +kernel
  have kA : ∀ z, z < 17 → n_sh (8 + 1 + z) = (1, 20) := by decide +kernel
  have kR : ∀ z, z < 8 → n_sh (324 + 3 + 4 * z) = (0, 5) ∧ n_sh (324 + 3 + 4 * z + 1) = (1, 16) ∧ n_sh (324 + 3 + 4 * z + 2) = (1, 16) ∧ n_sh (324 + 3 + 4 * z + 3) = (1, 19) := by decide +kernel
  have kQ : ∀ z, z < 8 → n_sh (360 + 3 + 4 * z) = (0, 5) ∧ n_sh (360 + 3 + 4 * z + 1) = (1, 16) ∧ n_sh (360 + 3 + 4 * z + 2) = (1, 16) ∧ n_sh (360 + 3 + 4 * z + 3) = (1, 19) := by decide +kernel
  refine nsp_of 0 (by decide +kernel) (Nat.le_of_ble_eq_true rfl) rfl (by decide) ?_
  refine nk_aload_n 0 dX0_init_0 rfl rfl ?_
  refine nk_obj n_rc dX0_init_1 w_ob0 w_obj1 w_obj2 (Nat.le_of_ble_eq_true rfl) ?_
  refine nk_aload_n 0 dX0_init_4 rfl rfl ?_
  refine nk_new 9 dX0_init_5 wc9 w_cl0_9 w_in9 w_ini9 w_df9 (by omega) (sh_k hS (by decide +kernel)) (fun k => (hI0.1 _ k (by omega)).1) (fun k => (hI0.1 _ k (by omega)).2) ?_
  refine nk_dup dX0_init_8 rfl ?_
  have a0 := hI0.le (show 1 ≤ 2 by decide)
  refine nk_bipush 100 dX0_init_9 (by decide) ?_
  refine nk_init (m1 := 3) n_rc [.int 100] dX0_init_11 q0_11 rfl rfl (Nat.le_of_ble_eq_true rfl) (by decide) (by decide) (nt_Text (N := 100) (by decide) a0 (by omega) (by omega) (sh_k hS (by decide +kernel)) (sh_k hS (by decide +kernel))) (fun j0 q0 h0 => ?_)
  have b0 : n_I G x 3 j0 q0 := h0.1
  refine nk_putr 0 0 (.object "ReadCaller$Text") dX0_init_14 f0_14 rfl (Or.inr ⟨rfl, rfl, rfl⟩) (by decide +kernel) rfl rfl (Nat.le_refl x) (by omega) hx0 ?_
  have c0 := b0.upr (a := x) (k := 0) (y := x + 1) (by omega)
  have F0 : ∀ a k, x < a → a < x + 1 → n_up q0 x 0 (some (x + 1)) a k = r a k := fun a k w1 w2 => by rw [n_up_a (by omega)]; exact h0.2.1 a k (by omega)
  have X0_0 : n_up q0 x 0 (some (x + 1)) x 0 = some (x + 1) := n_up_s
  have Y0 : n_up q0 x 0 (some (x + 1)) (x + 1) 0 = some (x + 2) := by rw [n_up_a (by omega)]; exact h0.2.2
  generalize hr0 : n_up q0 x 0 (some (x + 1)) = r0 at *
  refine nk_aload_n 0 dX0_init_17 rfl rfl ?_
  refine nk_new 9 dX0_init_18 wc9 w_cl0_9 w_in9 w_ini9 w_df9 (by omega) (sh_k hS (by decide +kernel)) (fun k => (c0.1 _ k (by omega)).1) (fun k => (c0.1 _ k (by omega)).2) ?_
  refine nk_dup dX0_init_21 rfl ?_
  have a1 := c0.le (show 3 ≤ 4 by decide)
  refine nk_sipush 420 dX0_init_22 (by decide) ?_
  refine nk_init (m1 := 5) n_rc [.int 420] dX0_init_25 q0_11 rfl rfl (Nat.le_of_ble_eq_true rfl) (by decide) (by decide) (nt_Text (N := 420) (by decide) a1 (by omega) (by omega) (sh_k hS (by decide +kernel)) (sh_k hS (by decide +kernel))) (fun j1 q1 h1 => ?_)
  have b1 : n_I G x 5 j1 q1 := h1.1
  refine nk_putr 0 1 (.object "ReadCaller$Text") dX0_init_28 f0_18 rfl (Or.inr ⟨rfl, rfl, rfl⟩) (by decide +kernel) rfl rfl (Nat.le_refl x) (by omega) hx0 ?_
  have c1 := b1.upr (a := x) (k := 1) (y := x + 3) (by omega)
  have F1 : ∀ a k, x < a → a < x + 3 → n_up q1 x 1 (some (x + 3)) a k = r0 a k := fun a k w1 w2 => by rw [n_up_a (by omega)]; exact h1.2.1 a k (by omega)
  have X0_1 : n_up q1 x 1 (some (x + 3)) x 0 = some (x + 1) := by rw [n_up_k (by decide), h1.2.1 x _ (by omega)]; exact X0_0
  have X1_1 : n_up q1 x 1 (some (x + 3)) x 1 = some (x + 3) := n_up_s
  have Y1 : n_up q1 x 1 (some (x + 3)) (x + 3) 0 = some (x + 4) := by rw [n_up_a (by omega)]; exact h1.2.2
  generalize hr1 : n_up q1 x 1 (some (x + 3)) = r1 at *
  refine nk_aload_n 0 dX0_init_31 rfl rfl ?_
  refine nk_new 3 dX0_init_32 wc3 w_cl0_21 w_in3 w_ini3 w_df3 (by omega) (sh_k hS (by decide +kernel)) (fun k => (c1.1 _ k (by omega)).1) (fun k => (c1.1 _ k (by omega)).2) ?_
  refine nk_dup dX0_init_35 rfl ?_
  have a2 := c1.le (show 5 ≤ 6 by decide)
  refine nk_aload_n 0 dX0_init_36 rfl rfl ?_
  refine nk_getr (y := x + 1) 0 0 dX0_init_37 f0_14 rfl (Nat.le_refl x) (by omega) hx0 X0_1 ?_
  refine nk_init (m1 := 6) n_rc [.ref (x + 1)] dX0_init_40 q0_23 rfl rfl (Nat.le_of_ble_eq_true rfl) (by decide) (by decide) (nt_Parser a2 (by omega) (by omega) (sh_k hS (by decide +kernel))) (fun j2 q2 h2 => ?_)
  have b2 : n_I G x 6 j2 q2 := h2.1
  refine nk_putr 0 2 (.object "ReadCaller$Parser") dX0_init_43 f0_26 rfl (Or.inr ⟨rfl, rfl, rfl⟩) (by decide +kernel) rfl rfl (Nat.le_refl x) (by omega) hx0 ?_
  have c2 := b2.upr (a := x) (k := 2) (y := x + 5) (by omega)
  have F2 : ∀ a k, x < a → a < x + 5 → n_up q2 x 2 (some (x + 5)) a k = r1 a k := fun a k w1 w2 => by rw [n_up_a (by omega)]; exact h2.2.1 a k (by omega)
  have X0_2 : n_up q2 x 2 (some (x + 5)) x 0 = some (x + 1) := by rw [n_up_k (by decide), h2.2.1 x _ (by omega)]; exact X0_1
  have X1_2 : n_up q2 x 2 (some (x + 5)) x 1 = some (x + 3) := by rw [n_up_k (by decide), h2.2.1 x _ (by omega)]; exact X1_1
  have X2_2 : n_up q2 x 2 (some (x + 5)) x 2 = some (x + 5) := n_up_s
  have Y2 : n_up q2 x 2 (some (x + 5)) (x + 5) 0 = some (x + 1) := by rw [n_up_a (by omega)]; exact h2.2.2
  generalize hr2 : n_up q2 x 2 (some (x + 5)) = r2 at *
  refine nk_aload_n 0 dX0_init_46 rfl rfl ?_
  refine nk_new 3 dX0_init_47 wc3 w_cl0_21 w_in3 w_ini3 w_df3 (by omega) (sh_k hS (by decide +kernel)) (fun k => (c2.1 _ k (by omega)).1) (fun k => (c2.1 _ k (by omega)).2) ?_
  refine nk_dup dX0_init_50 rfl ?_
  have a3 := c2.le (show 6 ≤ 7 by decide)
  refine nk_aload_n 0 dX0_init_51 rfl rfl ?_
  refine nk_getr (y := x + 3) 0 1 dX0_init_52 f0_18 rfl (Nat.le_refl x) (by omega) hx0 X1_2 ?_
  refine nk_init (m1 := 7) n_rc [.ref (x + 3)] dX0_init_55 q0_23 rfl rfl (Nat.le_of_ble_eq_true rfl) (by decide) (by decide) (nt_Parser a3 (by omega) (by omega) (sh_k hS (by decide +kernel))) (fun j3 q3 h3 => ?_)
  have b3 : n_I G x 7 j3 q3 := h3.1
  refine nk_putr 0 3 (.object "ReadCaller$Parser") dX0_init_58 f0_30 rfl (Or.inr ⟨rfl, rfl, rfl⟩) (by decide +kernel) rfl rfl (Nat.le_refl x) (by omega) hx0 ?_
  have c3 := b3.upr (a := x) (k := 3) (y := x + 6) (by omega)
  have F3 : ∀ a k, x < a → a < x + 6 → n_up q3 x 3 (some (x + 6)) a k = r2 a k := fun a k w1 w2 => by rw [n_up_a (by omega)]; exact h3.2.1 a k (by omega)
  have X0_3 : n_up q3 x 3 (some (x + 6)) x 0 = some (x + 1) := by rw [n_up_k (by decide), h3.2.1 x _ (by omega)]; exact X0_2
  have X1_3 : n_up q3 x 3 (some (x + 6)) x 1 = some (x + 3) := by rw [n_up_k (by decide), h3.2.1 x _ (by omega)]; exact X1_2
  have X2_3 : n_up q3 x 3 (some (x + 6)) x 2 = some (x + 5) := by rw [n_up_k (by decide), h3.2.1 x _ (by omega)]; exact X2_2
  have X3_3 : n_up q3 x 3 (some (x + 6)) x 3 = some (x + 6) := n_up_s
  have Y3 : n_up q3 x 3 (some (x + 6)) (x + 6) 0 = some (x + 3) := by rw [n_up_a (by omega)]; exact h3.2.2
  generalize hr3 : n_up q3 x 3 (some (x + 6)) = r3 at *
  refine nk_aload_n 0 dX0_init_61 rfl rfl ?_
  refine nk_new 1 dX0_init_62 wc1 w_cl0_33 w_in1 w_ini1 w_df1 (by omega) (sh_k hS (by decide +kernel)) (fun k => (c3.1 _ k (by omega)).1) (fun k => (c3.1 _ k (by omega)).2) ?_
  refine nk_dup dX0_init_65 rfl ?_
  have a4 := c3.le (show 7 ≤ 8 by decide)
  refine nk_init (m1 := 26) n_rc [] dX0_init_66 (q0_35 hN1) rfl rfl (Nat.le_of_ble_eq_true rfl) (by decide) (by decide) (nt_Aligner (n := 8) hao1 a4 (by omega) (by omega) (sh_k hS (by decide +kernel)) (sh_k hS (by decide +kernel)) (fun z hz => sh_k hS (kA z hz))) (fun j4 q4 h4 => ?_)
  have b4 : n_I G x 26 j4 q4 := h4.1
  refine nk_putr 0 4 (.object "ReadCaller$Aligner") dX0_init_69 f0_36 rfl (Or.inr ⟨rfl, rfl, rfl⟩) (by decide +kernel) rfl rfl (Nat.le_refl x) (by omega) hx0 ?_
  have c4 := b4.upr (a := x) (k := 4) (y := x + 7) (by omega)
  have F4 : ∀ a k, x < a → a < x + 7 → n_up q4 x 4 (some (x + 7)) a k = r3 a k := fun a k w1 w2 => by rw [n_up_a (by omega)]; exact h4.2.1 a k (by omega) (by omega)
  have X0_4 : n_up q4 x 4 (some (x + 7)) x 0 = some (x + 1) := by rw [n_up_k (by decide), h4.2.1 x _ (by omega) (by omega)]; exact X0_3
  have X1_4 : n_up q4 x 4 (some (x + 7)) x 1 = some (x + 3) := by rw [n_up_k (by decide), h4.2.1 x _ (by omega) (by omega)]; exact X1_3
  have X2_4 : n_up q4 x 4 (some (x + 7)) x 2 = some (x + 5) := by rw [n_up_k (by decide), h4.2.1 x _ (by omega) (by omega)]; exact X2_3
  have X3_4 : n_up q4 x 4 (some (x + 7)) x 3 = some (x + 6) := by rw [n_up_k (by decide), h4.2.1 x _ (by omega) (by omega)]; exact X3_3
  have X4_4 : n_up q4 x 4 (some (x + 7)) x 4 = some (x + 7) := n_up_s
  have Y4 : n_up q4 x 4 (some (x + 7)) (x + 7) 0 = some (x + 8) ∧ ∀ z, z < 17 → n_up q4 x 4 (some (x + 7)) (x + 8) z = some (x + 9 + z) := ⟨by rw [n_up_a (by omega)]; exact h4.2.2.1, fun z hz => by rw [n_up_a (by omega)]; exact h4.2.2.2 z hz⟩
  generalize hr4 : n_up q4 x 4 (some (x + 7)) = r4 at *
  refine nk_aload_n 0 dX0_init_72 rfl rfl ?_
  refine nk_new 4 dX0_init_73 wc4 w_cl0_40 w_in4 w_ini4 w_df4 (by omega) (sh_k hS (by decide +kernel)) (fun k => (c4.1 _ k (by omega)).1) (fun k => (c4.1 _ k (by omega)).2) ?_
  refine nk_dup dX0_init_76 rfl ?_
  have a5 := c4.le (show 26 ≤ 27 by decide)
  refine nk_init (m1 := 317) n_rc [] dX0_init_77 q0_42 rfl rfl (Nat.le_of_ble_eq_true rfl) (by decide) (by decide) (nt_Pile (n := 27) haoS hN4 a5 (by omega) (by omega) (sh_k hS (by decide +kernel)) (sh_k hS (by decide +kernel)) (sh_k hS (by decide +kernel)) (fun z hz => ⟨sh_k hS (kS z hz).1, sh_k hS (kS z hz).2.1, sh_k hS (kS z hz).2.2⟩)) (fun j5 q5 h5 => ?_)
  have b5 : n_I G x 317 j5 q5 := h5.1
  refine nk_putr 0 5 (.object "ReadCaller$Pile") dX0_init_80 f0_43 rfl (Or.inr ⟨rfl, rfl, rfl⟩) (by decide +kernel) rfl rfl (Nat.le_refl x) (by omega) hx0 ?_
  have c5 := b5.upr (a := x) (k := 5) (y := x + 26) (by omega)
  have F5 : ∀ a k, x < a → a < x + 26 → n_up q5 x 5 (some (x + 26)) a k = r4 a k := fun a k w1 w2 => by rw [n_up_a (by omega)]; exact h5.2.1 a k (by omega) (by omega)
  have X0_5 : n_up q5 x 5 (some (x + 26)) x 0 = some (x + 1) := by rw [n_up_k (by decide), h5.2.1 x _ (by omega) (by omega)]; exact X0_4
  have X1_5 : n_up q5 x 5 (some (x + 26)) x 1 = some (x + 3) := by rw [n_up_k (by decide), h5.2.1 x _ (by omega) (by omega)]; exact X1_4
  have X2_5 : n_up q5 x 5 (some (x + 26)) x 2 = some (x + 5) := by rw [n_up_k (by decide), h5.2.1 x _ (by omega) (by omega)]; exact X2_4
  have X3_5 : n_up q5 x 5 (some (x + 26)) x 3 = some (x + 6) := by rw [n_up_k (by decide), h5.2.1 x _ (by omega) (by omega)]; exact X3_4
  have X4_5 : n_up q5 x 5 (some (x + 26)) x 4 = some (x + 7) := by rw [n_up_k (by decide), h5.2.1 x _ (by omega) (by omega)]; exact X4_4
  have X5_5 : n_up q5 x 5 (some (x + 26)) x 5 = some (x + 26) := n_up_s
  have Y5 : nl_pi (n_up q5 x 5 (some (x + 26))) (x + 26) := by
    refine nl_pi_e (q := q5) ⟨h5.2.2.1, fun p hp => ⟨?_, ?_⟩, fun z hz => ?_⟩ (fun a k w1 w2 => n_up_a (by omega))
    · have := (h5.2.2.2.1 p hp).1
      rw [show x + (27 + 2 + 6 * p) = x + 26 + 3 + 6 * p by omega] at this
      exact this
    · have := (h5.2.2.2.1 p hp).2
      rw [show x + (27 + 2 + 6 * p + 3) = x + 26 + 6 + 6 * p by omega] at this
      exact this
    · have := h5.2.2.2.2 z hz
      rw [show x + (27 + 2 + 3 * z) = x + 26 + 3 + 3 * z by omega] at this
      exact this
  generalize hr5 : n_up q5 x 5 (some (x + 26)) = r5 at *
  refine nk_aload_n 0 dX0_init_83 rfl rfl ?_
  refine nk_new 2 dX0_init_84 wc2 w_cl0_47 w_in2 w_ini2 w_df2 (by omega) (sh_k hS (by decide +kernel)) (fun k => (c5.1 _ k (by omega)).1) (fun k => (c5.1 _ k (by omega)).2) ?_
  refine nk_dup dX0_init_87 rfl ?_
  have a6 := c5.le (show 317 ≤ 318 by decide)
  refine nk_init (m1 := 321) n_rc [] dX0_init_88 (q0_49 hN2) rfl rfl (Nat.le_of_ble_eq_true rfl) (by decide) (by decide) (nt_Judge (n := 318) hgs htl a6 (by omega) (by omega) (sh_k hS (by decide +kernel)) (sh_k hS (by decide +kernel)) (sh_k hS (by decide +kernel)) (sh_k hS (by decide +kernel))) (fun j6 q6 h6 => ?_)
  have b6 : n_I G x 321 j6 q6 := h6.1
  refine nk_putr 0 6 (.object "ReadCaller$Judge") dX0_init_91 f0_50 rfl (Or.inr ⟨rfl, rfl, rfl⟩) (by decide +kernel) rfl rfl (Nat.le_refl x) (by omega) hx0 ?_
  have c6 := b6.upr (a := x) (k := 6) (y := x + 317) (by omega)
  have F6 : ∀ a k, x < a → a < x + 317 → n_up q6 x 6 (some (x + 317)) a k = r5 a k := fun a k w1 w2 => by rw [n_up_a (by omega)]; exact h6.2.1 a k (by omega)
  have X0_6 : n_up q6 x 6 (some (x + 317)) x 0 = some (x + 1) := by rw [n_up_k (by decide), h6.2.1 x _ (by omega)]; exact X0_5
  have X1_6 : n_up q6 x 6 (some (x + 317)) x 1 = some (x + 3) := by rw [n_up_k (by decide), h6.2.1 x _ (by omega)]; exact X1_5
  have X2_6 : n_up q6 x 6 (some (x + 317)) x 2 = some (x + 5) := by rw [n_up_k (by decide), h6.2.1 x _ (by omega)]; exact X2_5
  have X3_6 : n_up q6 x 6 (some (x + 317)) x 3 = some (x + 6) := by rw [n_up_k (by decide), h6.2.1 x _ (by omega)]; exact X3_5
  have X4_6 : n_up q6 x 6 (some (x + 317)) x 4 = some (x + 7) := by rw [n_up_k (by decide), h6.2.1 x _ (by omega)]; exact X4_5
  have X5_6 : n_up q6 x 6 (some (x + 317)) x 5 = some (x + 26) := by rw [n_up_k (by decide), h6.2.1 x _ (by omega)]; exact X5_5
  have X6_6 : n_up q6 x 6 (some (x + 317)) x 6 = some (x + 317) := n_up_s
  have Y6 : n_up q6 x 6 (some (x + 317)) (x + 317) 0 = some (x + 318) ∧ n_up q6 x 6 (some (x + 317)) (x + 317) 1 = some (x + 319) ∧ n_up q6 x 6 (some (x + 317)) (x + 317) 3 = some (x + 320) := ⟨by rw [n_up_a (by omega)]; exact h6.2.2.1, by rw [n_up_a (by omega)]; exact h6.2.2.2.1, by rw [n_up_a (by omega)]; exact h6.2.2.2.2⟩
  generalize hr6 : n_up q6 x 6 (some (x + 317)) = r6 at *
  refine nk_aload_n 0 dX0_init_94 rfl rfl ?_
  refine nk_new 8 dX0_init_95 wc8 w_cl0_54 w_in8 w_ini8 w_df8 (by omega) (sh_k hS (by decide +kernel)) (fun k => (c6.1 _ k (by omega)).1) (fun k => (c6.1 _ k (by omega)).2) ?_
  refine nk_dup dX0_init_98 rfl ?_
  have a7 := c6.le (show 321 ≤ 322 by decide)
  refine nk_init (m1 := 323) n_rc [] dX0_init_99 (q0_56 hN3) rfl rfl (Nat.le_of_ble_eq_true rfl) (by decide) (by decide) (nt_Table (n := 322) a7 (by omega) (by omega) (sh_k hS (by decide +kernel)) (sh_k hS (by decide +kernel))) (fun j7 q7 h7 => ?_)
  have b7 : n_I G x 323 j7 q7 := h7.1
  refine nk_putr 0 7 (.object "ReadCaller$Table") dX0_init_102 f0_57 rfl (Or.inr ⟨rfl, rfl, rfl⟩) (by decide +kernel) rfl rfl (Nat.le_refl x) (by omega) hx0 ?_
  have c7 := b7.upr (a := x) (k := 7) (y := x + 321) (by omega)
  have F7 : ∀ a k, x < a → a < x + 321 → n_up q7 x 7 (some (x + 321)) a k = r6 a k := fun a k w1 w2 => by rw [n_up_a (by omega)]; exact h7.2.1 a k (by omega)
  have X0_7 : n_up q7 x 7 (some (x + 321)) x 0 = some (x + 1) := by rw [n_up_k (by decide), h7.2.1 x _ (by omega)]; exact X0_6
  have X1_7 : n_up q7 x 7 (some (x + 321)) x 1 = some (x + 3) := by rw [n_up_k (by decide), h7.2.1 x _ (by omega)]; exact X1_6
  have X2_7 : n_up q7 x 7 (some (x + 321)) x 2 = some (x + 5) := by rw [n_up_k (by decide), h7.2.1 x _ (by omega)]; exact X2_6
  have X3_7 : n_up q7 x 7 (some (x + 321)) x 3 = some (x + 6) := by rw [n_up_k (by decide), h7.2.1 x _ (by omega)]; exact X3_6
  have X4_7 : n_up q7 x 7 (some (x + 321)) x 4 = some (x + 7) := by rw [n_up_k (by decide), h7.2.1 x _ (by omega)]; exact X4_6
  have X5_7 : n_up q7 x 7 (some (x + 321)) x 5 = some (x + 26) := by rw [n_up_k (by decide), h7.2.1 x _ (by omega)]; exact X5_6
  have X6_7 : n_up q7 x 7 (some (x + 321)) x 6 = some (x + 317) := by rw [n_up_k (by decide), h7.2.1 x _ (by omega)]; exact X6_6
  have X7_7 : n_up q7 x 7 (some (x + 321)) x 7 = some (x + 321) := n_up_s
  have Y7 : n_up q7 x 7 (some (x + 321)) (x + 321) 0 = some (x + 322) := by rw [n_up_a (by omega)]; exact h7.2.2
  generalize hr7 : n_up q7 x 7 (some (x + 321)) = r7 at *
  refine nk_aload_n 0 dX0_init_105 rfl rfl ?_
  refine nk_new 6 dX0_init_106 wc6 w_cl0_61 w_in6 w_ini6 w_df6 (by omega) (sh_k hS (by decide +kernel)) (fun k => (c7.1 _ k (by omega)).1) (fun k => (c7.1 _ k (by omega)).2) ?_
  refine nk_dup dX0_init_109 rfl ?_
  have a8 := c7.le (show 323 ≤ 324 by decide)
  refine nk_init (m1 := 359) n_rc [] dX0_init_110 q0_63 rfl rfl (Nat.le_of_ble_eq_true rfl) (by decide) (by decide) (nt_Sample (n := 324) haoR hN5 a8 (by omega) (by omega) (sh_k hS (by decide +kernel)) (sh_k hS (by decide +kernel)) (sh_k hS (by decide +kernel)) (sh_k hS (by decide +kernel)) (fun z hz => ⟨sh_k hS (kR z hz).1, sh_k hS (kR z hz).2.1, sh_k hS (kR z hz).2.2.1, sh_k hS (kR z hz).2.2.2⟩)) (fun j8 q8 h8 => ?_)
  have b8 : n_I G x 359 j8 q8 := h8.1
  refine nk_putr 0 8 (.object "ReadCaller$Sample") dX0_init_113 f0_64 rfl (Or.inl rfl) (by decide +kernel) rfl rfl (Nat.le_refl x) (by omega) hx0 ?_
  have c8 := b8.upr (a := x) (k := 8) (y := x + 323) (by omega)
  have F8 : ∀ a k, x < a → a < x + 323 → n_up q8 x 8 (some (x + 323)) a k = r7 a k := fun a k w1 w2 => by rw [n_up_a (by omega)]; exact h8.2.1 a k (by omega) (by omega)
  have X0_8 : n_up q8 x 8 (some (x + 323)) x 0 = some (x + 1) := by rw [n_up_k (by decide), h8.2.1 x _ (by omega) (by omega)]; exact X0_7
  have X1_8 : n_up q8 x 8 (some (x + 323)) x 1 = some (x + 3) := by rw [n_up_k (by decide), h8.2.1 x _ (by omega) (by omega)]; exact X1_7
  have X2_8 : n_up q8 x 8 (some (x + 323)) x 2 = some (x + 5) := by rw [n_up_k (by decide), h8.2.1 x _ (by omega) (by omega)]; exact X2_7
  have X3_8 : n_up q8 x 8 (some (x + 323)) x 3 = some (x + 6) := by rw [n_up_k (by decide), h8.2.1 x _ (by omega) (by omega)]; exact X3_7
  have X4_8 : n_up q8 x 8 (some (x + 323)) x 4 = some (x + 7) := by rw [n_up_k (by decide), h8.2.1 x _ (by omega) (by omega)]; exact X4_7
  have X5_8 : n_up q8 x 8 (some (x + 323)) x 5 = some (x + 26) := by rw [n_up_k (by decide), h8.2.1 x _ (by omega) (by omega)]; exact X5_7
  have X6_8 : n_up q8 x 8 (some (x + 323)) x 6 = some (x + 317) := by rw [n_up_k (by decide), h8.2.1 x _ (by omega) (by omega)]; exact X6_7
  have X7_8 : n_up q8 x 8 (some (x + 323)) x 7 = some (x + 321) := by rw [n_up_k (by decide), h8.2.1 x _ (by omega) (by omega)]; exact X7_7
  have X8_8 : n_up q8 x 8 (some (x + 323)) x 8 = some (x + 323) := n_up_s
  have Y8 : nl_sm (n_up q8 x 8 (some (x + 323))) (x + 323) := by
    refine nl_sm_e (q := q8) ⟨h8.2.2.1, fun z hz => ?_⟩ (fun a k w1 w2 => n_up_a (by omega))
    have := h8.2.2.2 z hz
    rw [show x + (324 + 3 + 4 * z) = x + 323 + 4 + 4 * z by omega] at this
    exact this
  generalize hr8 : n_up q8 x 8 (some (x + 323)) = r8 at *
  refine nk_aload_n 0 dX0_init_116 rfl rfl ?_
  refine nk_new 6 dX0_init_117 wc6 w_cl0_61 w_in6 w_ini6 w_df6 (by omega) (sh_k hS (by decide +kernel)) (fun k => (c8.1 _ k (by omega)).1) (fun k => (c8.1 _ k (by omega)).2) ?_
  refine nk_dup dX0_init_120 rfl ?_
  have a9 := c8.le (show 359 ≤ 360 by decide)
  refine nk_init (m1 := 395) n_rc [] dX0_init_121 q0_63 rfl rfl (Nat.le_of_ble_eq_true rfl) (by decide) (by decide) (nt_Sample (n := 360) haoR hN5 a9 (by omega) (by omega) (sh_k hS (by decide +kernel)) (sh_k hS (by decide +kernel)) (sh_k hS (by decide +kernel)) (sh_k hS (by decide +kernel)) (fun z hz => ⟨sh_k hS (kQ z hz).1, sh_k hS (kQ z hz).2.1, sh_k hS (kQ z hz).2.2.1, sh_k hS (kQ z hz).2.2.2⟩)) (fun j9 q9 h9 => ?_)
  have b9 : n_I G x 395 j9 q9 := h9.1
  refine nk_putr 0 9 (.object "ReadCaller$Sample") dX0_init_124 f0_68 rfl (Or.inl rfl) (by decide +kernel) rfl rfl (Nat.le_refl x) (by omega) hx0 ?_
  have c9 := b9.upr (a := x) (k := 9) (y := x + 359) (by omega)
  have F9 : ∀ a k, x < a → a < x + 359 → n_up q9 x 9 (some (x + 359)) a k = r8 a k := fun a k w1 w2 => by rw [n_up_a (by omega)]; exact h9.2.1 a k (by omega) (by omega)
  have X0_9 : n_up q9 x 9 (some (x + 359)) x 0 = some (x + 1) := by rw [n_up_k (by decide), h9.2.1 x _ (by omega) (by omega)]; exact X0_8
  have X1_9 : n_up q9 x 9 (some (x + 359)) x 1 = some (x + 3) := by rw [n_up_k (by decide), h9.2.1 x _ (by omega) (by omega)]; exact X1_8
  have X2_9 : n_up q9 x 9 (some (x + 359)) x 2 = some (x + 5) := by rw [n_up_k (by decide), h9.2.1 x _ (by omega) (by omega)]; exact X2_8
  have X3_9 : n_up q9 x 9 (some (x + 359)) x 3 = some (x + 6) := by rw [n_up_k (by decide), h9.2.1 x _ (by omega) (by omega)]; exact X3_8
  have X4_9 : n_up q9 x 9 (some (x + 359)) x 4 = some (x + 7) := by rw [n_up_k (by decide), h9.2.1 x _ (by omega) (by omega)]; exact X4_8
  have X5_9 : n_up q9 x 9 (some (x + 359)) x 5 = some (x + 26) := by rw [n_up_k (by decide), h9.2.1 x _ (by omega) (by omega)]; exact X5_8
  have X6_9 : n_up q9 x 9 (some (x + 359)) x 6 = some (x + 317) := by rw [n_up_k (by decide), h9.2.1 x _ (by omega) (by omega)]; exact X6_8
  have X7_9 : n_up q9 x 9 (some (x + 359)) x 7 = some (x + 321) := by rw [n_up_k (by decide), h9.2.1 x _ (by omega) (by omega)]; exact X7_8
  have X8_9 : n_up q9 x 9 (some (x + 359)) x 8 = some (x + 323) := by rw [n_up_k (by decide), h9.2.1 x _ (by omega) (by omega)]; exact X8_8
  have X9_9 : n_up q9 x 9 (some (x + 359)) x 9 = some (x + 359) := n_up_s
  have Y9 : nl_sm (n_up q9 x 9 (some (x + 359))) (x + 359) := by
    refine nl_sm_e (q := q9) ⟨h9.2.2.1, fun z hz => ?_⟩ (fun a k w1 w2 => n_up_a (by omega))
    have := h9.2.2.2 z hz
    rw [show x + (360 + 3 + 4 * z) = x + 359 + 4 + 4 * z by omega] at this
    exact this
  generalize hr9 : n_up q9 x 9 (some (x + 359)) = r9 at *
  refine nk_vret dX0_init_127 rfl rfl ⟨c9, ?_⟩
  refine ⟨⟨X0_9, X1_9, X2_9, X3_9, X4_9, X5_9, X6_9, X7_9, X8_9, X9_9⟩, ⟨by rw [F9 _ _ (by omega) (by omega), F8 _ _ (by omega) (by omega), F7 _ _ (by omega) (by omega), F6 _ _ (by omega) (by omega), F5 _ _ (by omega) (by omega), F4 _ _ (by omega) (by omega), F3 _ _ (by omega) (by omega), F2 _ _ (by omega) (by omega), F1 _ _ (by omega) (by omega)]; exact Y0, by rw [F9 _ _ (by omega) (by omega), F8 _ _ (by omega) (by omega), F7 _ _ (by omega) (by omega), F6 _ _ (by omega) (by omega), F5 _ _ (by omega) (by omega), F4 _ _ (by omega) (by omega), F3 _ _ (by omega) (by omega), F2 _ _ (by omega) (by omega)]; exact Y1, by rw [F9 _ _ (by omega) (by omega), F8 _ _ (by omega) (by omega), F7 _ _ (by omega) (by omega), F6 _ _ (by omega) (by omega), F5 _ _ (by omega) (by omega), F4 _ _ (by omega) (by omega), F3 _ _ (by omega) (by omega)]; exact Y2, by rw [F9 _ _ (by omega) (by omega), F8 _ _ (by omega) (by omega), F7 _ _ (by omega) (by omega), F6 _ _ (by omega) (by omega), F5 _ _ (by omega) (by omega), F4 _ _ (by omega) (by omega)]; exact Y3⟩, ⟨by rw [F9 _ _ (by omega) (by omega), F8 _ _ (by omega) (by omega), F7 _ _ (by omega) (by omega), F6 _ _ (by omega) (by omega), F5 _ _ (by omega) (by omega)]; exact Y4.1, fun z hz => by rw [F9 _ _ (by omega) (by omega), F8 _ _ (by omega) (by omega), F7 _ _ (by omega) (by omega), F6 _ _ (by omega) (by omega), F5 _ _ (by omega) (by omega)]; exact Y4.2 z hz⟩, nl_pi_e Y5 (fun z w h1 h2 => by rw [F9 _ _ (by omega) (by omega), F8 _ _ (by omega) (by omega), F7 _ _ (by omega) (by omega), F6 _ _ (by omega) (by omega)]), ⟨by rw [F9 _ _ (by omega) (by omega), F8 _ _ (by omega) (by omega), F7 _ _ (by omega) (by omega)]; exact Y6.1, by rw [F9 _ _ (by omega) (by omega), F8 _ _ (by omega) (by omega), F7 _ _ (by omega) (by omega)]; exact Y6.2.1, by rw [F9 _ _ (by omega) (by omega), F8 _ _ (by omega) (by omega), F7 _ _ (by omega) (by omega)]; exact Y6.2.2⟩, by rw [F9 _ _ (by omega) (by omega), F8 _ _ (by omega) (by omega)]; exact Y7, nl_sm_e Y8 (fun z w h1 h2 => by rw [F9 _ _ (by omega) (by omega)]), Y9⟩

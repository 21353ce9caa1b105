/-! CONSTRUCTORS with loops: Pile, Sample -/
theorem n_I.aa {G : o_G} {x n a k y : Nat} {i : o_I} {r : n_R} (h : n_I G x n i r) (ha : a < x + n) : n_I G x n i (n_up r a k (some y)) := h.upr ha
/-- a site's cells, a read's cells -/
def nl_st (q : n_R) (s : Nat) : Prop := q s 0 = some (s + 1) ∧ q s 1 = some (s + 2)
def nl_rd (q : n_R) (s : Nat) : Prop := q s 0 = some (s + 1) ∧ q s 1 = some (s + 2) ∧ q s 8 = some (s + 3)
theorem nt_Pile {G : o_G} {x d n t : Nat} {i : o_I} {r : n_R} (hao : ∀ U : State, o_E G U → va_AO "ReadCaller$Site" U) (hnw : ∀ U : State, o_E G U → va_Nw (.methodLinkNest RX4 20 yX7_init "ReadCaller") U) (hI0 : n_I G x n i r) (hx : x ≤ t) (ht : t < x + n) (hsh : o_S G t = (0, 4)) (hsA : o_S G (x + n) = (5, 48)) (hsB : o_S G (x + (n + 1)) = (5, 48)) (hsS : ∀ z, z < 96 → o_S G (x + (n + 2 + 3 * z)) = (0, 7) ∧ o_S G (x + (n + 2 + 3 * z + 1)) = (1, 8) ∧ o_S G (x + (n + 2 + 3 * z + 2)) = (1, 8)) :
    NSp G x (d + 2) n (n + 290) mX4_init [.ref t] (fun j q => n_I G x (n + 290) j q ∧ (∀ a k, a ≠ t → a < x + n → q a k = r a k) ∧ (q t 0 = some (x + n) ∧ q t 1 = some (x + (n + 1))) ∧ (∀ p, p < 48 → q (x + n) p = some (x + (n + 2 + 6 * p)) ∧ q (x + (n + 1)) p = some (x + (n + 2 + 6 * p + 3))) ∧ ∀ z, z < 96 → nl_st q (x + (n + 2 + 3 * z))) i r := by
  have site : ∀ (m : Nat) (j : o_I) (q : n_R) (z : Nat), z < 96 → m = n + 2 + 3 * z → n_I G x m j q → NSp G x (d + 1) (m + 1) (m + 3) mX7_init [.ref (x + m)] (fun j2 q2 => n_I G x (m + 3) j2 q2 ∧ (∀ a k, a ≠ x + m → q2 a k = q a k) ∧ q2 (x + m) 0 = some (x + (m + 1)) ∧ q2 (x + m) 1 = some (x + (m + 1 + 1))) j q := fun m j q z hz em hI => by
    subst em
    obtain ⟨z1, z2, z3⟩ := hsS z hz
    exact nt_Site (n := n + 2 + 3 * z + 1) (hI.le (by omega)) (by omega) (by omega) z1 z2 z3
  have loop : ∀ (u p : Nat) (j : o_I) (q : n_R), p + u = 48 → n_I G x (n + 2 + 6 * p) j q → (∀ a k, a ≠ t → a < x + n → q a k = r a k) → (q t 0 = some (x + n) ∧ q t 1 = some (x + (n + 1))) → (∀ p', p' < p → q (x + n) p' = some (x + (n + 2 + 6 * p')) ∧ q (x + (n + 1)) p' = some (x + (n + 2 + 6 * p' + 3))) → (∀ z, z < 2 * p → nl_st q (x + (n + 2 + 3 * z))) →
      NkC G x n (n + 290) mX4_init (n_c G x (d + 2) n (n + 290) (fun j q => n_I G x (n + 290) j q ∧ (∀ a k, a ≠ t → a < x + n → q a k = r a k) ∧ (q t 0 = some (x + n) ∧ q t 1 = some (x + (n + 1))) ∧ (∀ p, p < 48 → q (x + n) p = some (x + (n + 2 + 6 * p)) ∧ q (x + (n + 1)) p = some (x + (n + 2 + 6 * p + 3))) ∧ ∀ z, z < 96 → nl_st q (x + (n + 2 + 3 * z)))) 24 [some (.ref t), some (.int (nI p))] [] (n + 2 + 6 * p) j q := by
    intro u
    induction u with
    | zero =>
      intro p j q hp hI hfr ht01 hrow hst
      have hp : p = 48 := by omega
      subst hp
      refine nk_iload_n 1 dX4_init_24 rfl rfl ?_
      refine nk_bipush 48 dX4_init_25 (by decide) ?_
      refine nk_ic_ge 62 dX4_init_27 (by decide) (fun _ => ?_) (fun w => absurd (by decide) w)
      exact nk_vret dX4_init_62 rfl rfl ⟨hI, hfr, ht01, hrow, hst⟩
    | succ u ih =>
      intro p j q hp hI hfr ht01 hrow hst
      have hpn : vp_in (nI p) 48 := vp_in_nI (by omega) (by decide)
      have cp : (nI p).toNatClampNeg = p := nI_clamp (by omega)
      obtain ⟨sA, -, -⟩ := hsS (2 * p) (by omega)
      obtain ⟨sB, -, -⟩ := hsS (2 * p + 1) (by omega)
      rw [show n + 2 + 3 * (2 * p) = n + 2 + 6 * p by omega] at sA
      rw [show n + 2 + 3 * (2 * p + 1) = n + 2 + 6 * p + 3 by omega] at sB
      refine nk_iload_n 1 dX4_init_24 rfl rfl ?_
      refine nk_bipush 48 dX4_init_25 (by decide) ?_
      refine nk_ic_ge 62 dX4_init_27 (by decide) (fun w => absurd ((nI_leI (a := 48) (b := p) (by decide) (by omega)).mp w) (by omega)) (fun _ => ?_)
      refine nk_aload_n 0 dX4_init_30 rfl rfl ?_
      refine nk_getr 4 0 dX4_init_31 f4_11 rfl hx (by omega) hsh ht01.1 ?_
      refine nk_iload_n 1 dX4_init_34 rfl rfl ?_
      refine nk_new 7 dX4_init_35 wc7 w_cl4_9 w_in7 w_ini7 w_df7 (by omega) sA (fun k => (hI.1 _ k (by omega)).1) (fun k => (hI.1 _ k (by omega)).2) ?_
      refine nk_dup dX4_init_38 rfl ?_
      refine nk_init (m1 := n + 2 + 6 * p + 3) n_rc [] dX4_init_39 (q4_20 hnw) rfl rfl (Nat.le_of_ble_eq_true rfl) (by omega) (by omega) (site (n + 2 + 6 * p) j q (2 * p) (by omega) (by omega) hI) (fun j1 q1 h1 => ?_)
      obtain ⟨i1, f1, a1, b1⟩ := h1
      refine nk_aast 2 7 48 dX4_init_42 rfl rfl (by omega) (by omega) hsA (by omega) (by omega) sA hpn ?_
      rw [cp]
      have i2 := i1.aa (a := x + n) (k := p) (y := x + (n + 2 + 6 * p)) (by omega)
      refine nk_aload_n 0 dX4_init_43 rfl rfl ?_
      refine nk_getr (y := x + (n + 1)) 4 1 dX4_init_44 f4_17 rfl hx (by omega) hsh (by rw [n_up_a (by omega), f1 _ _ (by omega)]; exact ht01.2) ?_
      refine nk_iload_n 1 dX4_init_47 rfl rfl ?_
      refine nk_new 7 dX4_init_48 wc7 w_cl4_9 w_in7 w_ini7 w_df7 (by omega) sB (fun k => (i2.1 _ k (by omega)).1) (fun k => (i2.1 _ k (by omega)).2) ?_
      refine nk_dup dX4_init_51 rfl ?_
      refine nk_init (m1 := n + 2 + 6 * p + 3 + 3) n_rc [] dX4_init_52 (q4_20 hnw) rfl rfl (Nat.le_of_ble_eq_true rfl) (by omega) (by omega) (site (n + 2 + 6 * p + 3) j1 _ (2 * p + 1) (by omega) (by omega) i2) (fun j3 q3 h3 => ?_)
      obtain ⟨i3, f3, a3, b3⟩ := h3
      refine nk_aast 2 7 48 dX4_init_55 rfl rfl (by omega) (by omega) hsB (by omega) (by omega) sB hpn ?_
      rw [cp]
      have i4 := i3.aa (a := x + (n + 1)) (k := p) (y := x + (n + 2 + 6 * p + 3)) (by omega)
      refine nk_iinc 1 (nI (p + 1)) dX4_init_56 rfl (by decide) (by rw [nI_1]) (by decide) [some (.ref t), some (.int (nI (p + 1)))] rfl ?_
      refine nk_goto 24 dX4_init_59 (by decide) ?_
      have e6 : n + 2 + 6 * p + 3 + 3 = n + 2 + 6 * (p + 1) := by omega
      rw [e6] at i4 ⊢
      refine ih (p + 1) j3 _ (by omega) i4 (fun a k n1 n2 => ?_) ⟨?_, ?_⟩ (fun p' hp' => ?_) (fun z hz => ?_)
      · rw [n_up_a (by omega), f3 _ _ (by omega), n_up_a (by omega), f1 _ _ (by omega)]
        exact hfr a k n1 n2
      · rw [n_up_a (by omega), f3 _ _ (by omega), n_up_a (by omega), f1 _ _ (by omega)]
        exact ht01.1
      · rw [n_up_a (by omega), f3 _ _ (by omega), n_up_a (by omega), f1 _ _ (by omega)]
        exact ht01.2
      · rcases (show p' < p ∨ p' = p by omega) with hlt | rfl
        · obtain ⟨u1, u2⟩ := hrow p' hlt
          refine ⟨?_, ?_⟩
          · rw [n_up_a (by omega), f3 _ _ (by omega), n_up_k (by omega), f1 _ _ (by omega)]
            exact u1
          · rw [n_up_k (by omega), f3 _ _ (by omega), n_up_a (by omega), f1 _ _ (by omega)]
            exact u2
        · refine ⟨?_, ?_⟩
          · rw [n_up_a (by omega), f3 _ _ (by omega), n_up_s]
          · rw [n_up_s]
      · rcases (show z < 2 * p ∨ z = 2 * p ∨ z = 2 * p + 1 by omega) with hlt | rfl | rfl
        · obtain ⟨u1, u2⟩ := hst z hlt
          exact ⟨by rw [n_up_a (by omega), f3 _ _ (by omega), n_up_a (by omega), f1 _ _ (by omega)]; exact u1, by rw [n_up_a (by omega), f3 _ _ (by omega), n_up_a (by omega), f1 _ _ (by omega)]; exact u2⟩
        · rw [show n + 2 + 3 * (2 * p) = n + 2 + 6 * p by omega]
          exact ⟨by rw [n_up_a (by omega), f3 _ _ (by omega), n_up_a (by omega), a1]; rfl, by rw [n_up_a (by omega), f3 _ _ (by omega), n_up_a (by omega), b1]; rfl⟩
        · rw [show n + 2 + 3 * (2 * p + 1) = n + 2 + 6 * p + 3 by omega]
          exact ⟨by rw [n_up_a (by omega), a3]; rfl, by rw [n_up_a (by omega), b3]; rfl⟩
  refine nsp_of 1 (by decide +kernel) (Nat.le_of_ble_eq_true rfl) rfl (by omega) ?_
  refine nk_aload_n 0 dX4_init_0 rfl rfl ?_
  refine nk_obj n_rc dX4_init_1 w_ob4 w_obj1 w_obj2 (Nat.le_of_ble_eq_true rfl) ?_
  refine nk_aload_n 0 dX4_init_4 rfl rfl ?_
  refine nk_bipush 48 dX4_init_5 (by decide) ?_
  refine nk_newq "ReadCaller$Site" 2 48 dX4_init_7 w_cl4_9 hao rfl rfl (by decide) (by omega) hsA (fun k => (hI0.1 _ k (by omega)).2) ?_
  have hI1 := hI0.le (show n ≤ n + 1 by omega)
  refine nk_putr 4 0 (.array (.object "ReadCaller$Site")) dX4_init_10 f4_11 rfl (Or.inr ⟨rfl, rfl, rfl⟩) (by decide +kernel) rfl rfl hx (by omega) hsh ?_
  have hI2 := hI1.upr (a := t) (k := 0) (y := x + n) (by omega)
  refine nk_aload_n 0 dX4_init_13 rfl rfl ?_
  refine nk_bipush 48 dX4_init_14 (by decide) ?_
  refine nk_newq "ReadCaller$Site" 2 48 dX4_init_16 w_cl4_9 hao rfl rfl (by decide) (by omega) hsB (fun k => (hI2.1 _ k (by omega)).2) ?_
  have hI3 := hI2.le (show n + 1 ≤ n + 2 by omega)
  refine nk_putr 4 1 (.array (.object "ReadCaller$Site")) dX4_init_19 f4_17 rfl (Or.inr ⟨rfl, rfl, rfl⟩) (by decide +kernel) rfl rfl hx (by omega) hsh ?_
  have hI4 := hI3.upr (a := t) (k := 1) (y := x + (n + 1)) (by omega)
  refine nk_iconst 0 dX4_init_22 (by decide) ?_
  refine nk_istore_n 1 dX4_init_23 rfl (by decide) [some (.ref t), some (.int (nI 0))] rfl ?_
  refine loop 48 0 _ _ rfl hI4 (fun a k n1 n2 => ?_) ⟨?_, n_up_s⟩ (fun p' hp' => absurd hp' (Nat.not_lt_zero _)) (fun z hz => absurd hz (Nat.not_lt_zero _))
  · rw [n_up_a n1, n_up_a n1]
  · rw [n_up_k (by decide), n_up_s]
theorem nt_Sample {G : o_G} {x d n t : Nat} {i : o_I} {r : n_R} (hao : ∀ U : State, o_E G U → va_AO "ReadCaller$Read" U) (hnw : ∀ U : State, o_E G U → va_Nw (.methodLinkNest RX6 35 yX5_init "ReadCaller") U) (hI0 : n_I G x n i r) (hx : x ≤ t) (ht : t < x + n) (hsh : o_S G t = (0, 6)) (hsA : o_S G (x + n) = (2, 8)) (hsB : o_S G (x + (n + 1)) = (1, 48)) (hsC : o_S G (x + (n + 2)) = (4, 8)) (hsS : ∀ z, z < 8 → o_S G (x + (n + 3 + 4 * z)) = (0, 5) ∧ o_S G (x + (n + 3 + 4 * z + 1)) = (1, 16) ∧ o_S G (x + (n + 3 + 4 * z + 2)) = (1, 16) ∧ o_S G (x + (n + 3 + 4 * z + 3)) = (1, 19)) :
    NSp G x (d + 2) n (n + 35) mX6_init [.ref t] (fun j q => n_I G x (n + 35) j q ∧ (∀ a k, a ≠ t → a < x + n → q a k = r a k) ∧ (q t 0 = some (x + n) ∧ q t 2 = some (x + (n + 1)) ∧ q t 4 = some (x + (n + 2))) ∧ ∀ z, z < 8 → q (x + (n + 2)) z = some (x + (n + 3 + 4 * z)) ∧ nl_rd q (x + (n + 3 + 4 * z))) i r := by
  have read : ∀ (m : Nat) (j : o_I) (q : n_R) (z : Nat), z < 8 → m = n + 3 + 4 * z → n_I G x m j q → NSp G x (d + 1) (m + 1) (m + 4) mX5_init [.ref (x + m)] (fun j2 q2 => n_I G x (m + 4) j2 q2 ∧ (∀ a k, a ≠ x + m → q2 a k = q a k) ∧ q2 (x + m) 0 = some (x + (m + 1)) ∧ q2 (x + m) 1 = some (x + (m + 1 + 1)) ∧ q2 (x + m) 8 = some (x + (m + 1 + 2))) j q := fun m j q z hz em hI => by
    subst em
    obtain ⟨z1, z2, z3, z4⟩ := hsS z hz
    exact nt_Read (n := n + 3 + 4 * z + 1) (hI.le (by omega)) (by omega) (by omega) z1 z2 z3 z4
  have loop : ∀ (u p : Nat) (j : o_I) (q : n_R), p + u = 8 → n_I G x (n + 3 + 4 * p) j q → (∀ a k, a ≠ t → a < x + n → q a k = r a k) → (q t 0 = some (x + n) ∧ q t 2 = some (x + (n + 1)) ∧ q t 4 = some (x + (n + 2))) → (∀ z, z < p → q (x + (n + 2)) z = some (x + (n + 3 + 4 * z)) ∧ nl_rd q (x + (n + 3 + 4 * z))) →
      NkC G x n (n + 35) mX6_init (n_c G x (d + 2) n (n + 35) (fun j q => n_I G x (n + 35) j q ∧ (∀ a k, a ≠ t → a < x + n → q a k = r a k) ∧ (q t 0 = some (x + n) ∧ q t 2 = some (x + (n + 1)) ∧ q t 4 = some (x + (n + 2))) ∧ ∀ z, z < 8 → q (x + (n + 2)) z = some (x + (n + 3 + 4 * z)) ∧ nl_rd q (x + (n + 3 + 4 * z)))) 46 [some (.ref t), some (.int (nI p))] [] (n + 3 + 4 * p) j q := by
    intro u
    induction u with
    | zero =>
      intro p j q hp hI hfr ht3 hrow
      have hp : p = 8 := by omega
      subst hp
      refine nk_iload_n 1 dX6_init_46 rfl rfl ?_
      refine nk_bipush 8 dX6_init_47 (by decide) ?_
      refine nk_ic_ge 71 dX6_init_49 (by decide) (fun _ => ?_) (fun w => absurd (by decide) w)
      exact nk_vret dX6_init_71 rfl rfl ⟨hI, hfr, ht3, hrow⟩
    | succ u ih =>
      intro p j q hp hI hfr ht3 hrow
      have hpn : vp_in (nI p) 8 := vp_in_nI (by omega) (by decide)
      have cp : (nI p).toNatClampNeg = p := nI_clamp (by omega)
      obtain ⟨sA, -, -⟩ := hsS p (by omega)
      refine nk_iload_n 1 dX6_init_46 rfl rfl ?_
      refine nk_bipush 8 dX6_init_47 (by decide) ?_
      refine nk_ic_ge 71 dX6_init_49 (by decide) (fun w => absurd ((nI_leI (a := 8) (b := p) (by decide) (by omega)).mp w) (by omega)) (fun _ => ?_)
      refine nk_aload_n 0 dX6_init_52 rfl rfl ?_
      refine nk_getr 6 4 dX6_init_53 f6_28 rfl hx (by omega) hsh ht3.2.2 ?_
      refine nk_iload_n 1 dX6_init_56 rfl rfl ?_
      refine nk_new 5 dX6_init_57 wc5 w_cl6_26 w_in5 w_ini5 w_df5 (by omega) sA (fun k => (hI.1 _ k (by omega)).1) (fun k => (hI.1 _ k (by omega)).2) ?_
      refine nk_dup dX6_init_60 rfl ?_
      refine nk_init (m1 := n + 3 + 4 * p + 4) n_rc [] dX6_init_61 (q6_35 hnw) rfl rfl (Nat.le_of_ble_eq_true rfl) (by omega) (by omega) (read (n + 3 + 4 * p) j q p (by omega) rfl hI) (fun j1 q1 h1 => ?_)
      obtain ⟨i1, f1, a1, b1, c1⟩ := h1
      refine nk_aast 1 5 8 dX6_init_64 rfl rfl (by omega) (by omega) hsC (by omega) (by omega) sA hpn ?_
      rw [cp]
      have i4 := i1.aa (a := x + (n + 2)) (k := p) (y := x + (n + 3 + 4 * p)) (by omega)
      refine nk_iinc 1 (nI (p + 1)) dX6_init_65 rfl (by decide) (by rw [nI_1]) (by decide) [some (.ref t), some (.int (nI (p + 1)))] rfl ?_
      refine nk_goto 46 dX6_init_68 (by decide) ?_
      have e6 : n + 3 + 4 * p + 4 = n + 3 + 4 * (p + 1) := by omega
      rw [e6] at i4 ⊢
      refine ih (p + 1) j1 _ (by omega) i4 (fun a k n1 n2 => ?_) ⟨?_, ?_, ?_⟩ (fun z hz => ?_)
      · rw [n_up_a (by omega), f1 _ _ (by omega)]
        exact hfr a k n1 n2
      · rw [n_up_a (by omega), f1 _ _ (by omega)]
        exact ht3.1
      · rw [n_up_a (by omega), f1 _ _ (by omega)]
        exact ht3.2.1
      · rw [n_up_a (by omega), f1 _ _ (by omega)]
        exact ht3.2.2
      · rcases (show z < p ∨ z = p by omega) with hlt | rfl
        · obtain ⟨u1, u2, u3, u4⟩ := hrow z hlt
          exact ⟨by rw [n_up_k (by omega), f1 _ _ (by omega)]; exact u1, by rw [n_up_a (by omega), f1 _ _ (by omega)]; exact u2, by rw [n_up_a (by omega), f1 _ _ (by omega)]; exact u3, by rw [n_up_a (by omega), f1 _ _ (by omega)]; exact u4⟩
        · exact ⟨n_up_s, by rw [n_up_a (by omega), a1]; rfl, by rw [n_up_a (by omega), b1]; rfl, by rw [n_up_a (by omega), c1]; rfl⟩
  refine nsp_of 1 (by decide +kernel) (Nat.le_of_ble_eq_true rfl) rfl (by omega) ?_
  refine nk_aload_n 0 dX6_init_0 rfl rfl ?_
  refine nk_obj n_rc dX6_init_1 w_ob6 w_obj1 w_obj2 (Nat.le_of_ble_eq_true rfl) ?_
  refine nk_aload_n 0 dX6_init_4 rfl rfl ?_
  refine nk_bipush 8 dX6_init_5 (by decide) ?_
  refine nk_newc 8 dX6_init_7 w_ac2 rfl (by decide) (by omega) hsA (fun k => (hI0.1 _ k (by omega)).1) ?_
  have hI1 := hI0.le (show n ≤ n + 1 by omega)
  refine nk_putr 6 0 (.array .char) dX6_init_9 f6_9 rfl (Or.inr ⟨rfl, rfl, rfl⟩) (by decide +kernel) rfl rfl hx (by omega) hsh ?_
  have hI2 := hI1.upr (a := t) (k := 0) (y := x + n) (by omega)
  refine nk_aload_n 0 dX6_init_12 rfl rfl ?_
  refine nk_iconst 0 dX6_init_13 (by decide) ?_
  refine nk_puti 6 1 .int dX6_init_14 f6_15 rfl (Or.inl rfl) (by decide +kernel) rfl rfl hx (by omega) hsh ?_
  have hI3 := hI2.up0 (a := t) (k := 1)
  refine nk_aload_n 0 dX6_init_17 rfl rfl ?_
  refine nk_bipush 48 dX6_init_18 (by decide) ?_
  refine nk_newi 48 dX6_init_20 w_ac1 rfl (by decide) (by omega) hsB (fun k => (hI3.1 _ k (by omega)).1) ?_
  have hI4 := hI3.le (show n + 1 ≤ n + 2 by omega)
  refine nk_putr 6 2 (.array .int) dX6_init_22 f6_19 rfl (Or.inr ⟨rfl, rfl, rfl⟩) (by decide +kernel) rfl rfl hx (by omega) hsh ?_
  have hI5 := hI4.upr (a := t) (k := 2) (y := x + (n + 1)) (by omega)
  refine nk_aload_n 0 dX6_init_25 rfl rfl ?_
  refine nk_iconst 0 dX6_init_26 (by decide) ?_
  refine nk_puti 6 3 .int dX6_init_27 f6_23 rfl (Or.inl rfl) (by decide +kernel) rfl rfl hx (by omega) hsh ?_
  have hI6 := hI5.up0 (a := t) (k := 3)
  refine nk_aload_n 0 dX6_init_30 rfl rfl ?_
  refine nk_bipush 8 dX6_init_31 (by decide) ?_
  refine nk_newq "ReadCaller$Read" 1 8 dX6_init_33 w_cl6_26 hao rfl rfl (by decide) (by omega) hsC (fun k => (hI6.1 _ k (by omega)).2) ?_
  have hI7 := hI6.le (show n + 2 ≤ n + 3 by omega)
  refine nk_putr 6 4 (.array (.object "ReadCaller$Read")) dX6_init_36 f6_28 rfl (Or.inr ⟨rfl, rfl, rfl⟩) (by decide +kernel) rfl rfl hx (by omega) hsh ?_
  have hI8 := hI7.upr (a := t) (k := 4) (y := x + (n + 2)) (by omega)
  refine nk_aload_n 0 dX6_init_39 rfl rfl ?_
  refine nk_iconst 0 dX6_init_40 (by decide) ?_
  refine nk_puti 6 5 .int dX6_init_41 f6_32 rfl (Or.inl rfl) (by decide +kernel) rfl rfl hx (by omega) hsh ?_
  have hI9 := hI8.up0 (a := t) (k := 5)
  refine nk_iconst 0 dX6_init_44 (by decide) ?_
  refine nk_istore_n 1 dX6_init_45 rfl (by decide) [some (.ref t), some (.int (nI 0))] rfl ?_
  refine loop 8 0 _ _ rfl hI9 (fun a k n1 n2 => ?_) ⟨?_, ?_, n_up_s⟩ (fun p' hp' => absurd hp' (Nat.not_lt_zero _))
  · rw [n_up_a n1, n_up_a n1, n_up_a n1]
  · rw [n_up_k (by decide), n_up_k (by decide), n_up_s]
  · rw [n_up_k (by decide), n_up_s]

/-! PARSER: takeRead -/
theorem px_let_n {x : Int32} (h : px_let x = true) : ∃ c, c ≤ 4 ∧ px_code x = nI c := by
  unfold px_let at h
  exact px_code_n (by simpa using h)
def rd_F (p rd : Nat) (i j : o_I) : Prop := ∀ b k, ¬ (b = p ∧ (k = 1 ∨ k = 2)) → ¬ (b = rd ∧ k = 2) → b ≠ rd + 1 → b ≠ rd + 2 → j b k = i b k
theorem c_takeRead {G : o_G} {d : Nat} {i : o_I} {r : o_R} {post : o_I → Prop} {p t cap n a rd : Nat} {w : Bool} {lk : Nat → Int32} {a1 k1 a3 k2 n1 a5 a6 a7 k3 n2 : Nat} {w1 w2 w3 w4 w5 w6 w7 w8 : Bool} (hc : o_cst G) (hp : ly_pars G r p t cap) (hr : ly_rd G r rd) (d1 : t + 1 < p) (d2 : p < rd) (ht : tp_S i t n lk) (hn : n ≤ cap) (hcap : cap < 2 ^ 19) (hs : ps_S i p a w) (ha : a ≤ n)
    (ea1 : pp_ea lk 64 a w = a1) (ew1 : pp_ew lk 64 a w = w1) (ek1 : tk_k lk 0 w1 a1 8 = k1) (ew2 : tk_w lk 0 w1 a1 1 8 = w2) (ea3 : pp_ea lk 10 (a1 + k1) w2 = a3) (ew3 : pp_ew lk 10 (a1 + k1) w2 = w3) (ek2 : tk_k lk 2 w3 a3 16 = k2) (ew4 : tk_w lk 2 w3 a3 4 16 = w4) (en1 : (if w4 = true then 0 else k2) = n1)
    (ea5 : pp_ea lk 10 (a3 + k2) w4 = a5) (ew5 : pp_ew lk 10 (a3 + k2) w4 = w5) (ea6 : pp_ea lk 43 a5 w5 = a6) (ew6 : pp_ew lk 43 a5 w5 = w6) (ea7 : pp_ea lk 10 a6 w6 = a7) (ew7 : pp_ew lk 10 a6 w6 = w7) (ek3 : tk_k lk 0 w7 a7 n1 = k3) (ew8 : tk_w lk 0 w7 a7 n1 n1 = w8) (en2 : (if w8 = true then 0 else k3) = n2)
    (h : ∀ j, ps_S j p (pp_ea lk 10 (a7 + k3) w8) (pp_ew lk 10 (a7 + k3) w8) → j rd 2 = nI n1 → (∀ q, q < n1 → j (rd + 1) q = px_code (lk (a3 + q))) → (∀ q, q < n2 → j (rd + 2) q = lk (a7 + q) - 33) → rd_F p rd i j → post j) : SpV G (d + 7) mX3_takeRead [.ref p, .ref rd] post i r := by
  have hO := hp.1
  obtain ⟨hOr, r0, Y0, r1, Y1, -⟩ := hr
  have tpF : ∀ {j : o_I}, rd_F p rd i j → tp_S j t n lk := fun {j} F => ⟨by rw [F _ _ (by omega) (by omega) (by omega) (by omega)]; exact ht.1, fun z hz => by rw [F _ _ (by omega) (by omega) (by omega) (by omega)]; exact ht.2.1 z hz, ht.2.2⟩
  have fP : ∀ {i1 j1 : o_I}, rd_F p rd i i1 → pf_F p i1 j1 → rd_F p rd i j1 := fun {i1 j1} u v b z n1 n2 n3 n4 => by rw [v b z n1]; exact u b z n1 n2 n3 n4
  have l1 : a1 ≤ n := by rw [← ea1]; exact ea_le ha ht.2.2 (by decide)
  have l2 : a1 + k1 ≤ n := by rw [← ek1]; exact tk_le l1 ht.2.2
  have l3 : a3 ≤ n := by rw [← ea3]; exact ea_le l2 ht.2.2 (by decide)
  have l4 : a3 + k2 ≤ n := by rw [← ek2]; exact tk_le l3 ht.2.2
  have l5 : a5 ≤ n := by rw [← ea5]; exact ea_le l4 ht.2.2 (by decide)
  have l6 : a6 ≤ n := by rw [← ea6]; exact ea_le l5 ht.2.2 (by decide)
  have l7 : a7 ≤ n := by rw [← ea7]; exact ea_le l6 ht.2.2 (by decide)
  have l8 : a7 + k3 ≤ n := by rw [← ek3]; exact tk_le l7 ht.2.2
  have kle : ∀ (kd : Nat) (w : Bool) (a m : Nat), tk_k lk kd w a m ≤ m := fun kd w a m => by
    unfold tk_k
    split
    · exact Nat.zero_le _
    · exact px_run_le _ _ _
  have k2le : k2 ≤ 16 := by rw [← ek2]; exact kle _ _ _ _
  have n1le : n1 ≤ 16 := by rw [← en1]; split <;> omega
  have k3le : k3 ≤ n1 := by rw [← ek3]; exact kle _ _ _ _
  have n2le : n2 ≤ 16 := by rw [← en2]; split <;> omega
  have w4f : 0 < n1 → w4 = false ∧ w3 = false ∧ n1 = k2 := fun q => by
    have hw : w4 = false := by
      cases hv : w4 with
      | false => rfl
      | true => rw [hv, if_pos rfl] at en1; omega
    refine ⟨hw, ?_, by rw [hw] at en1; exact en1.symm⟩
    rw [hw] at ew4
    unfold tk_w at ew4
    simp at ew4
    exact ew4.1
  have w8f : 0 < n2 → w8 = false ∧ w7 = false ∧ n2 = k3 := fun q => by
    have hw : w8 = false := by
      cases hv : w8 with
      | false => rfl
      | true => rw [hv, if_pos rfl] at en2; omega
    refine ⟨hw, ?_, by rw [hw] at en2; exact en2.symm⟩
    rw [hw] at ew8
    unfold tk_w at ew8
    simp at ew8
    exact ew8.1
  -- the qualities
  have loopQ : ∀ m q j, q + m = n2 → ps_S j p (a7 + k3) w8 → j rd 2 = nI n1 → (∀ z, z < n1 → j (rd + 1) z = px_code (lk (a3 + z))) → (∀ z, z < q → j (rd + 2) z = lk (a7 + z) - 33) → rd_F p rd i j → Ok G (d + 7) mX3_takeRead (fun v j q => q = r ∧ v = none ∧ post j) 93 [some (.ref p), some (.ref rd), some (.int (nI n2)), some (.int (nI q))] [] j r := by
    intro m
    induction m with
    | zero =>
      intro q j hq S hcnt hL hQ F
      refine sX3_takeRead_93 p rd _ _ ⟨fun _ => ⟨hO, c_ex hp (tpF F) hn (by omega) S (by omega) (by decide) (fun j2 S2 F2 => o_rv (h j2 S2 ?_ (fun z hz => ?_) (fun z hz => ?_) (fP F F2)))⟩, fun u => absurd (nI_le (by omega) (by omega)) u⟩
      · rw [F2 _ _ (by omega)]
        exact hcnt
      · rw [F2 _ _ (by omega)]
        exact hL z hz
      · rw [F2 _ _ (by omega)]
        exact hQ z (by omega)
    | succ m ih =>
      intro q j hq S hcnt hL hQ F
      obtain ⟨-, -, en⟩ := w8f (by omega)
      refine sX3_takeRead_93 p rd _ _ ⟨fun u => absurd u (nI_ge (by omega) (by omega)), fun _ => ⟨hOr, hO, c_taken hp (tpF F) hn (by omega) S l8 (by omega) (by omega) ?_⟩⟩
      rw [show a7 + k3 - n2 + q = a7 + q by omega, r1, Y1.len, nI_clamp (n := q) (by omega)]
      refine ⟨Y1.Y, vp_in_nI (by omega) (by decide), fun i9 f9 x10 e10 => ?_⟩
      rw [e10, nI_1]
      refine ih (q + 1) i9 (by omega) ⟨by rw [f9, o_up_a (by omega)]; exact S.1, by rw [f9, o_up_a (by omega)]; exact S.2⟩ (by rw [f9, o_up_a (by omega)]; exact hcnt) (fun z hz => by rw [f9, o_up_a (by omega)]; exact hL z hz) (fun z hz => ?_) (fun b z n1 n2 n3 n4 => by rw [f9, o_up_a n4]; exact F b z n1 n2 n3 n4)
      rw [f9]
      by_cases e : z = q
      · rw [e, o_up_s]
      · rw [o_up_k e]
        exact hQ z (by omega)
  -- the letters
  have loopL : ∀ m q j, q + m = n1 → ps_S j p (a3 + k2) w4 → (∀ z, z < q → j (rd + 1) z = px_code (lk (a3 + z))) → rd_F p rd i j → Ok G (d + 7) mX3_takeRead (fun v j q => q = r ∧ v = none ∧ post j) 32 [some (.ref p), some (.ref rd), some (.int (nI n1)), some (.int (nI q))] [] j r := by
    intro m
    induction m with
    | zero =>
      intro q j hq S hL F
      refine sX3_takeRead_32 p rd _ _ ⟨fun _ => ⟨hOr, fun i3 f3 => ⟨hO, ?_⟩⟩, fun u => absurd (nI_le (by omega) (by omega)) u⟩
      have k3' : ∀ b z, ¬ (b = rd ∧ z = 2) → i3 b z = j b z := fun b z nb => by
        rw [f3]
        by_cases eb : b = rd
        · rw [o_up_k (fun u => nb ⟨eb, u⟩)]
        · rw [o_up_a eb]
      have F3 : rd_F p rd i i3 := fun b z n1 n2 n3 n4 => by rw [k3' b z n2]; exact F b z n1 n2 n3 n4
      refine c_ex hp (tpF F3) hn (by omega) ⟨by rw [k3' _ _ (by omega)]; exact S.1, by rw [k3' _ _ (by omega)]; exact S.2⟩ (by omega) (by decide) (fun j5 S5 F5 => ?_)
      rw [ea5, ew5] at S5
      refine c_ex (c := 43) hp (tpF (fP F3 F5)) hn (by omega) S5 (by omega) (by decide) (fun j6 S6 F6 => ?_)
      rw [ea6, ew6] at S6
      refine c_ex hp (tpF (fP (fP F3 F5) F6)) hn (by omega) S6 (by omega) (by decide) (fun j7 S7 F7 => ?_)
      rw [ea7, ew7] at S7
      have F7' := fP (fP (fP F3 F5) F6) F7
      refine c_take (kd := 0) hc hp (by omega) (by omega) (tpF F7') hn (by omega) S7 (by omega) (by decide) (by omega) (by omega) (fun j8 S8 F8 => ?_)
      rw [ek3, ew8] at S8
      rw [ew8, ek3, en2]
      have kk : ∀ b z, ¬ (b = p ∧ (z = 1 ∨ z = 2)) → j8 b z = i3 b z := fun b z nb => by rw [F8 b z nb, F7 b z nb, F6 b z nb, F5 b z nb]
      refine loopQ n2 0 j8 (Nat.zero_add _) S8 ?_ (fun z hz => ?_) (fun z hz => absurd hz (Nat.not_lt_zero z)) (fP F7' F8)
      · rw [kk _ _ (by omega), f3, o_up_s]
      · rw [kk _ _ (by omega), k3' _ _ (by omega)]
        exact hL z (by omega)
    | succ m ih =>
      intro q j hq S hL F
      obtain ⟨hw4, hw3, en⟩ := w4f (by omega)
      obtain ⟨b1, b2⟩ := tk_in (lk := lk) (kd := 2) (a := a3) (m1 := 16) hw3 ht.2.2 q (by rw [ek2]; omega)
      obtain ⟨q0, hq0, eq0⟩ := tx_al_n (ht.2.1 (a3 + q) b2).2
      refine sX3_takeRead_32 p rd _ _ ⟨fun u => absurd u (nI_ge (by omega) (by omega)), fun _ => ⟨hOr, hc, hO, c_taken hp (tpF F) hn (by omega) S l4 (by omega) (by omega) ?_⟩⟩
      rw [show a3 + k2 - n1 + q = a3 + q by omega, eq0]
      refine ⟨by decide, by decide, c_indexOf hc (by omega) ?_⟩
      rw [← eq0, r0, Y0.len, nI_clamp (n := q) (by omega)]
      refine ⟨Y0.Y, vp_in_nI (by omega) (by decide), fun i18 f18 x19 e19 => ?_⟩
      rw [e19, nI_1]
      refine ih (q + 1) i18 (by omega) ⟨by rw [f18, o_up_a (by omega)]; exact S.1, by rw [f18, o_up_a (by omega)]; exact S.2⟩ (fun z hz => ?_) (fun b z n1 n2 n3 n4 => by rw [f18, o_up_a n3]; exact F b z n1 n2 n3 n4)
      rw [f18]
      by_cases e : z = q
      · rw [e, o_up_s]
      · rw [o_up_k e]
        exact hL z (by omega)
  refine sp_of 2 (by decide +kernel) (Nat.le_of_ble_eq_true rfl) rfl (sX3_takeRead_0 p rd ⟨hO, c_ex (c := 64) hp ht hn (by omega) hs (by omega) (by decide) (fun j1 S1 F1 => ?_)⟩)
  rw [ea1, ew1] at S1
  have F0 : rd_F p rd i i := fun _ _ _ _ _ _ => rfl
  have F1' := fP F0 F1
  refine c_take (m0 := 1) (m1 := 8) (kd := 0) hc hp (by omega) (by omega) (tpF F1') hn (by omega) S1 (by omega) (by decide) (by decide) (by decide) (fun j2 S2 F2 => ?_)
  rw [ek1, ew2] at S2
  have F2' := fP F1' F2
  refine c_ex hp (tpF F2') hn (by omega) S2 (by omega) (by decide) (fun j3 S3 F3 => ?_)
  rw [ea3, ew3] at S3
  have F3' := fP F2' F3
  refine c_take (m0 := 4) (m1 := 16) (kd := 2) hc hp (by omega) (by omega) (tpF F3') hn (by omega) S3 (by omega) (by decide) (by decide) (by decide) (fun j4 S4 F4 => ?_)
  rw [ek2, ew4] at S4
  rw [ew4, ek2, en1]
  exact loopL n1 0 j4 (Nat.zero_add _) S4 (fun z hz => absurd hz (Nat.not_lt_zero z)) (fP F3' F4)

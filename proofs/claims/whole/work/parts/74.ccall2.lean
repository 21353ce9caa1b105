/-! CALL, whole, in the class -/
/-- the class's cells: x, its shown sample sm, the other one dr -/
def ly_cl (G : o_G) (r : o_R) (x sm dr : Nat) : Prop := ly_texts G r x ∧ (r x 2 = x + 5 ∧ ly_pars G r (x + 5) (x + 1) 100) ∧ (r x 3 = x + 6 ∧ ly_pars G r (x + 6) (x + 3) 420) ∧ (r x 4 = x + 7 ∧ ly_al G r (x + 7)) ∧ ly_x G r x (x + 26) (x + 317) (x + 321) sm ∧ r x 9 = dr ∧ ly_sm G r dr ∧ ((sm = x + 323 ∧ dr = x + 359) ∨ (sm = x + 359 ∧ dr = x + 323))
theorem ly_text_r {G : o_G} {r r2 : o_R} {x t cap : Nat} (e : ∀ a k, x < a → r2 a k = r a k) (ht : x < t) (h : ly_text G r t cap) : ly_text G r2 t cap := ⟨h.1, by rw [e _ _ ht]; exact h.2.1, h.2.2⟩
theorem ly_rd_r {G : o_G} {r r2 : o_R} {x t : Nat} (e : ∀ a k, x < a → r2 a k = r a k) (ht : x < t) (h : ly_rd G r t) : ly_rd G r2 t := by
  obtain ⟨h1, h2, h3, h4, h5, h6, h7⟩ := h
  exact ⟨h1, by rw [e _ _ ht]; exact h2, h3, by rw [e _ _ ht]; exact h4, h5, by rw [e _ _ ht]; exact h6, h7⟩
theorem ly_sm_r {G : o_G} {r r2 : o_R} {x t : Nat} (e : ∀ a k, x < a → r2 a k = r a k) (ht : x < t) (h : ly_sm G r t) : ly_sm G r2 t := by
  obtain ⟨h1, h2, h3, h4, h5, h6, h7, h8⟩ := h
  exact ⟨h1, by rw [e _ _ ht]; exact h2, h3, by rw [e _ _ ht]; exact h4, h5, by rw [e _ _ ht]; exact h6, h7, fun q hq => ⟨by rw [e _ _ (by omega)]; exact (h8 q hq).1, ly_rd_r e (by omega) (h8 q hq).2⟩⟩
theorem ly_al_r {G : o_G} {r r2 : o_R} {x t : Nat} (e : ∀ a k, x < a → r2 a k = r a k) (ht : x < t) (h : ly_al G r t) : ly_al G r2 t := by
  obtain ⟨h1, h2, h3, h4⟩ := h
  exact ⟨h1, by rw [e _ _ ht]; exact h2, h3, fun k hk => ⟨by rw [e _ _ (by omega)]; exact (h4 k hk).1, (h4 k hk).2⟩⟩
theorem ly_st_r {G : o_G} {r r2 : o_R} {x t : Nat} (e : ∀ a k, x < a → r2 a k = r a k) (ht : x < t) (h : ly_st G r t) : ly_st G r2 t := by
  obtain ⟨h1, h2, h3, h4, h5⟩ := h
  exact ⟨h1, by rw [e _ _ ht]; exact h2, h3, by rw [e _ _ ht]; exact h4, h5⟩
theorem ly_pi_r {G : o_G} {r r2 : o_R} {x t : Nat} (e : ∀ a k, x < a → r2 a k = r a k) (ht : x < t) (h : ly_pi G r t) : ly_pi G r2 t := by
  obtain ⟨h1, h2, h3, h4, h5, h6⟩ := h
  exact ⟨h1, by rw [e _ _ ht]; exact h2, h3, by rw [e _ _ ht]; exact h4, h5, fun p hp => ⟨by rw [e _ _ (by omega)]; exact (h6 p hp).1, by rw [e _ _ (by omega)]; exact (h6 p hp).2.1, ly_st_r e (by omega) (h6 p hp).2.2.1, ly_st_r e (by omega) (h6 p hp).2.2.2⟩⟩
theorem ly_jd_r {G : o_G} {r r2 : o_R} {x t : Nat} (e : ∀ a k, x < a → r2 a k = r a k) (ht : x < t) (h : ly_jd G r t) : ly_jd G r2 t := by
  unfold ly_jd at h ⊢
  simp only [e t _ ht]
  exact h
theorem ly_cl_r {G : o_G} {r r2 : o_R} {x sm dr : Nat} (h : ly_cl G r x sm dr) (e : ∀ a k, ¬ (a = x ∧ (k = 8 ∨ k = 9)) → r2 a k = r a k) (h8 : r2 x 8 = dr) (h9 : r2 x 9 = sm) : ly_cl G r2 x dr sm := by
  obtain ⟨⟨t1, t2, t3, t4, t5⟩, ⟨p1, p2, p3, p4⟩, ⟨q1, q2, q3, q4⟩, ⟨a1, a2⟩, ⟨x1, x2, x3, x4, x5, x6, x7, x8, x9, d1, d2, d3⟩, r9, hdr, hpos⟩ := h
  have e1 : ∀ a k, x < a → r2 a k = r a k := fun a k ha => e a k (by omega)
  have e2 : ∀ k, k ≠ 8 → k ≠ 9 → r2 x k = r x k := fun k n1 n2 => e x k (by omega)
  refine ⟨⟨t1, by rw [e2 _ (by decide) (by decide)]; exact t2, by rw [e2 _ (by decide) (by decide)]; exact t3, ly_text_r e1 (by omega) t4, ly_text_r e1 (by omega) t5⟩, ⟨by rw [e2 _ (by decide) (by decide)]; exact p1, p2, by rw [e1 _ _ (by omega)]; exact p3, ly_text_r e1 (by omega) p4⟩, ⟨by rw [e2 _ (by decide) (by decide)]; exact q1, q2, by rw [e1 _ _ (by omega)]; exact q3, ly_text_r e1 (by omega) q4⟩, ⟨by rw [e2 _ (by decide) (by decide)]; exact a1, ly_al_r e1 (by omega) a2⟩, ⟨x1, by rw [e2 _ (by decide) (by decide)]; exact x2, ly_pi_r e1 (by omega) x3, by rw [e2 _ (by decide) (by decide)]; exact x4, ly_jd_r e1 (by omega) x5, by rw [e2 _ (by decide) (by decide)]; exact x6, ?_, h8, ly_sm_r e1 (by omega) hdr, d1, d2, by omega⟩, h9, ly_sm_r e1 (by omega) x9, by omega⟩
  exact ⟨x7.1, by rw [e1 _ _ (by omega)]; exact x7.2.1, x7.2.2⟩
theorem c_showDraft {G : o_G} {d : Nat} {i : o_I} {r : o_R} {post : o_I → o_R → Prop} {x : Nat} (hO : o_O G x 0) (h : ∀ r2 : o_R, (∀ a k, ¬ (a = x ∧ (k = 8 ∨ k = 9)) → r2 a k = r a k) → r2 x 8 = r x 9 → r2 x 9 = r x 8 → post i r2) : SpVr G (d + 1) mX0_showDraft [.ref x] post i r := by
  refine sp_of 1 (by decide +kernel) (Nat.le_of_ble_eq_true rfl) rfl (sX0_showDraft_0 x ⟨hO, fun r2 e2 r3 e3 => ⟨rfl, h r3 (fun a k n => ?_) ?_ ?_⟩⟩)
  · rw [e3, e2]
    unfold o_upr
    rw [if_neg (by omega), if_neg (by omega)]
  · rw [e3, e2, o_upr_k (by decide), o_upr_s]
  · rw [e3, o_upr_s]
/-- what a refused call may change -/
def cc_F (x dr : Nat) (i j : o_I) : Prop := ∀ a k, a ≠ x + 5 → a ≠ x + 6 → (a < dr ∨ dr + 36 ≤ a) → j a k = i a k
/-- what a call that is taken leaves -/
def cc_K (x : Nat) (i j : o_I) : Prop := ∀ a k, (a ≤ x + 4 ∨ x + 395 ≤ a) → j a k = i a k
theorem c_call {G : o_G} {d : Nat} {i : o_I} {r : o_R} {post : Int32 → o_I → o_R → Prop} {x sm dr n0 n1 : Nat} {lk0 lk1 : Nat → Int32} {v : Int32} (hc : o_cst G) (hL : ly_cl G r x sm dr) (ht0 : tp_S i (x + 1) n0 lk0) (ht1 : tp_S i (x + 3) n1 lk1) (hn0 : n0 ≤ 100) (hn1 : n1 ≤ 420)
    (hN : v < 0 ∨ ¬ v ≤ 3 → post (-1) i r)
    (hE0 : ∀ k e j, v = nI k → k ≤ 3 → pr_ref lk0 n0 = some e → cc_F x dr i j → post (-1000 - nI e) j r)
    (hE1 : ∀ k e j, v = nI k → k ≤ 3 → pr_ref lk0 n0 = none → rs_e lk1 n1 8 0 = some e → cc_F x dr i j → post (-2000 - nI e) j r)
    (hK : ∀ k j r2, v = nI k → k ≤ 3 → pr_ref lk0 n0 = none → rs_e lk1 n1 8 0 = none → ly_cl G r2 x dr sm → (∀ a q, a ≠ x → r2 a q = r a q) → sh_C j x dr (cx_R lk1 n1) (cx_len lk0 n0) (cx_P k lk0 n0 lk1 n1) (cx_T k lk0 n0 lk1 n1) (cx_OB k lk0 n0 lk1 n1) (cx_OK k lk0 n0 lk1 n1) (cx_TX k lk0 n0 lk1 n1) → cc_K x i j → post (nI (cx_cnt k lk0 n0 lk1 n1)) j r2) : SpIr G (d + 9) mX0_call [.ref x, .int v] post i r := by
  have hL' := hL
  obtain ⟨hT, ⟨p1, p2⟩, ⟨q1, q2⟩, ⟨a1, a2⟩, hx, r9, hdr, hpos⟩ := hL
  refine sp_of 2 (by decide +kernel) (Nat.le_of_ble_eq_true rfl) rfl (sX0_call_0 x v ⟨fun z => ⟨_, rfl, hN (Or.inl z)⟩, fun z => ⟨fun z3 => ?_, fun z3 => ⟨_, rfl, hN (Or.inr z3)⟩⟩⟩)
  obtain ⟨k, hk31, ek⟩ := nI_of z
  have hk : k ≤ 3 := by
    rw [ek] at z3
    exact (nI_leI (b := 3) hk31 (by decide)).mp z3
  have m1 : ∀ e : Nat, e < 2 ^ 31 → ¬ nI e = -1 := fun e he w => nI_pos he (by rw [w]; decide)
  rw [p1, q1, r9]
  refine ⟨hx.1, p2.1, c_parseReference (n := n0) (lk := lk0) hc p2 hdr (by omega) (by omega) ht0 hn0 (by decide) (fun e j he F => ?_) (fun j he n_l n_at hB F => ?_)⟩
  · have hb : e < 2 ^ 31 := by
      have := pr_ref_b hn0 he
      omega
    exact ⟨fun w => absurd w (m1 e hb), fun _ => ⟨_, rfl, hE0 k e j ek hk he (fun a z n1 n2 n3 => F a z (by omega) (by omega) (by omega) (by omega))⟩⟩
  · refine ⟨fun _ => ⟨q2.1, ?_⟩, fun w => absurd rfl w⟩
    have ht1' : tp_S j (x + 3) n1 lk1 := ⟨by rw [F _ _ (by omega) (by omega) (by omega) (by omega)]; exact ht1.1, fun z hz => by rw [F _ _ (by omega) (by omega) (by omega) (by omega)]; exact ht1.2.1 z hz, ht1.2.2⟩
    refine c_parseReads (n := n1) (lk := lk1) hc q2 hdr (by omega) (by omega) ht1' hn1 (by decide) (fun e j2 he2 F2 => ?_) (fun j2 he2 h5 hrq F2 => ?_)
    · have hb : e < 2 ^ 31 := by
        have := rs_e_b ht1.2.2 hn1 8 0 e (Nat.zero_le _) he2
        omega
      exact ⟨fun w => absurd w (m1 e hb), fun _ => ⟨_, rfl, hE1 k e j2 ek hk he he2 (fun a z n1 n2 n3 => by rw [F2 a z (by omega) (by omega) (by omega), F a z (by omega) (by omega) (by omega) (by omega)])⟩⟩
    · refine ⟨fun _ => ?_, fun w => absurd rfl w⟩
      refine c_showDraft hx.1 (fun r2 e2 e8 e9 => ?_)
      have e8' : r2 x 8 = dr := by rw [e8, r9]
      have e9' : r2 x 9 = sm := by rw [e9]; exact hx.2.2.2.2.2.2.2.1
      have hL2 := ly_cl_r hL' e2 e8' e9'
      obtain ⟨-, -, -, ⟨a1', a2'⟩, hx2, -, -, -⟩ := id hL2
      rw [hx2.2.1]
      refine ⟨hx2.2.2.1.1, c_forget hx2.2.2.1 (fun j3 S3 F3 => ?_)⟩
      -- the sample as it was read
      have l48 := cx_48 lk0 n0
      have hB3 : sb_S j3 dr (cx_bl lk0 n0) := by
        refine ⟨?_, l48, fun q c hq => ?_⟩
        · rw [F3 _ _ (by omega), F2 _ _ (by omega) (by omega) (by omega)]
          exact hB.1
        · rw [F3 _ _ (by omega), F2 _ _ (by omega) (by omega) (by omega)]
          exact hB.2.2 q c hq
      have hg3 : ∀ p, p < cx_len lk0 n0 → j3 (dr + 2) p = cx_g lk0 n0 p := fun p hp => (hB3.2.2 p _ (getD_some hp)).2
      have h53 : j3 dr 5 = nI (cx_R lk1 n1) := by
        rw [F3 _ _ (by omega)]
        exact h5
      have hsn : ∀ j4, cl_F (x + 7) (x + 26) dr j3 j4 → sn_S j4 dr (cx_nm lk0) (cx_len lk0 n0) (cx_f lk0 n0) := fun j4 F4 => by
        refine ⟨⟨?_, cx_nm8 lk0, fun q c hq => ?_⟩, ?_, l48, fun p hp => ⟨cx_f4 hp, ?_⟩⟩
        · rw [F4 _ _ (by omega) (by omega) (by omega), F3 _ _ (by omega), F2 _ _ (by omega) (by omega) (by omega), n_l, cx_nm_len]
        · obtain ⟨c1, c2, c3⟩ := cx_nm_at hq
          refine ⟨c2, ?_⟩
          rw [F4 _ _ (by omega) (by omega) (by omega), F3 _ _ (by omega), F2 _ _ (by omega) (by omega) (by omega), n_at q c1, c3]
        · rw [F4 _ _ (by omega) (by omega) (by omega)]
          exact hB3.1
        · rw [F4 _ _ (by omega) (by omega) (by omega)]
          exact hg3 p hp
      have hok := cx_ok he2
      have hR8 := cx_R8 lk1 n1
      have gt := cx_gt (k := k) (lk0 := lk0) (n0 := n0) hk he2
      rw [ek]
      refine c_callL (x := x) (al := x + 7) (pi := x + 26) (jd := x + 317) (ta := x + 321) (sm := dr) (k := k) (R := cx_R lk1 n1) (len := cx_len lk0 n0) (g := cx_g lk0 n0) (N := cx_N lk1 n1) (F := cx_F lk1 n1) (FQ := cx_Q lk1 n1) hx2 a1' a2' (by omega) hk l48 hR8 hok h53 hB3.1 hg3 (fun j4 S4 done F4 => ?_) (cx_R lk1 n1) 0 j3 (by omega) S3 (fun q' hq' => absurd hq' (Nat.not_lt_zero _)) (fun q' _ hq' => ?_) (fun a z _ _ _ => rfl)
      · refine c_reportSites (len := cx_len lk0 n0) (OB := cx_OB k lk0 n0 lk1 n1) (OK := cx_OK k lk0 n0 lk1 n1) (nm := cx_nm lk0) (f := cx_f lk0 n0) hc hx2 (pi_OS S4 gt.1.1 gt.1.2) (cx_sw hk he he2) (hsn j4 F4) (cx_TXl hk he he2) (fun j5 S5 F5 => ⟨_, rfl, hK k j5 r2 ek hk he he2 hL2 (fun a q na => e2 a q (by omega)) ⟨?_, fun q hq => ?_, ?_, ?_, S5⟩ (fun a z hz => ?_)⟩)
        · rw [F5 _ _ (by omega), F4 _ _ (by omega) (by omega) (by omega)]
          exact h53
        · obtain ⟨b1, b2⟩ := done q hq
          exact ⟨pc_same b1 (fun z => F5 _ _ (by omega)), sc_same b2 (fun z => F5 _ _ (by omega)) (fun z => F5 _ _ (by omega))⟩
        · rw [F5 _ _ (by omega), F4 _ _ (by omega) (by omega) (by omega)]
          exact hB3.1
        · intro p hp
          have := pi_OS S4 gt.1.1 gt.1.2 p hp
          exact ⟨st_same this.1 (fun a q ha => F5 _ _ (by omega)), st_same this.2 (fun a q ha => F5 _ _ (by omega))⟩
        · rw [F5 _ _ (by omega), F4 _ _ (by omega) (by omega) (by omega), F3 _ _ (by omega), F2 _ _ (by omega) (by omega) (by omega), F _ _ (by omega) (by omega) (by omega) (by omega)]
      · obtain ⟨b1, b2, b3⟩ := hrq q' (cx_s lk1 n1 q') (getD_some hq')
        refine ⟨?_, fun z hz => ⟨?_, ?_⟩⟩
        · rw [F3 _ _ (by omega)]
          exact b1
        · rw [F3 _ _ (by omega)]
          exact b2 z hz
        · rw [F3 _ _ (by omega)]
          exact b3 z hz

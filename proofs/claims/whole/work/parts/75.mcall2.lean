/-! CALL, whole, in the reference -/
def cm_K (y : Nat) (i j : o_I) : Prop := ∀ a z, (a < y ∨ a = y + 1 ∨ a = y + 2 ∨ y + 26 < a) → j a z = i a z
theorem m_call {G : o_G} {d : Nat} {i : o_I} {r : o_R} {post : Int32 → o_I → Prop} {y n0 n1 : Nat} {f0 f1 : Nat → Int32} {v : Int32} (hm : ly_m G r y) (hS : mt_S i y n0 n1 f0 f1) (hc0 : ∀ q, q < n0 → tx_al (f0 q)) (hc1 : ∀ q, q < n1 → tx_al (f1 q))
    (hN : v < 0 ∨ ¬ v ≤ 3 → post (-1) i)
    (hE0 : ∀ k e, v = nI k → k ≤ 3 → pr_ref (px_lk f0 n0) n0 = some e → post (-1000 - nI e) i)
    (hE1 : ∀ k e, v = nI k → k ≤ 3 → pr_ref (px_lk f0 n0) n0 = none → rs_e (px_lk f1 n1) n1 8 0 = some e → post (-2000 - nI e) i)
    (hK : ∀ k j, v = nI k → k ≤ 3 → pr_ref (px_lk f0 n0) n0 = none → rs_e (px_lk f1 n1) n1 8 0 = none → sh_M j y (cx_R (px_lk f1 n1) n1) (cx_P k (px_lk f0 n0) n0 (px_lk f1 n1) n1) (cx_T k (px_lk f0 n0) n0 (px_lk f1 n1) n1) (cx_OB k (px_lk f0 n0) n0 (px_lk f1 n1) n1) (cx_OK k (px_lk f0 n0) n0 (px_lk f1 n1) n1) (cx_TX k (px_lk f0 n0) n0 (px_lk f1 n1) n1) → cm_K y i j → post (nI (cx_cnt k (px_lk f0 n0) n0 (px_lk f1 n1) n1)) j) : SpI G (d + 5) mX10_call [.ref y, .int v] post i r := by
  have s0 := hS.1.1
  have s1 := hS.2.1
  have hn0 := hS.1.2.1
  have hn1 := hS.2.2.1
  have mtj : ∀ j, mt_F y i j → mt_S j y n0 n1 f0 f1 := fun j F => by
    obtain ⟨⟨b1, b2, b3⟩, c1, c2, c3⟩ := hS
    exact ⟨⟨by rw [F _ _ (by omega) (by omega)]; exact b1, b2, fun k hk => by rw [F _ _ (by omega) (by omega)]; exact b3 k hk⟩, by rw [F _ _ (by omega) (by omega)]; exact c1, c2, fun k hk => by rw [F _ _ (by omega) (by omega)]; exact c3 k hk⟩
  have lkj : ∀ j, mt_F y i j → lk_R G r j y 0 (px_lk f0 n0) ∧ lk_R G r j y 1 (px_lk f1 n1) := fun j F => lk_R_of hm (mtj j F) hc0 hc1
  obtain ⟨lk0R, lk1R⟩ := lk_R_of hm hS hc0 hc1
  have hz0 : ∀ k, n0 ≤ k → px_lk f0 n0 k = 0 := fun k hk => px_lk_0 hk
  have hz1 : ∀ k, n1 ≤ k → px_lk f1 n1 k = 0 := fun k hk => px_lk_0 hk
  have ha0 : ∀ k, k < n0 → tx_al (px_lk f0 n0 k) := fun k hk => by
    unfold px_lk
    rw [if_pos hk]
    exact hc0 k hk
  refine sp_of 3 (by decide +kernel) (Nat.le_of_ble_eq_true rfl) rfl (sX10_call_0 y v ?_)
  refine m_outside (fun hb => ⟨fun w => absurd w (by decide), fun _ => o_ri (hN hb)⟩) (fun z z3 => ⟨fun _ => ⟨hm.1, ?_⟩, fun w => absurd rfl w⟩)
  obtain ⟨k, hk31, ek⟩ := nI_of z
  have hk : k ≤ 3 := by
    rw [ek] at z3
    exact (nI_leI (b := 3) hk31 (by decide)).mp z3
  generalize hlk0 : px_lk f0 n0 = lk0 at *
  generalize hlk1 : px_lk f1 n1 = lk1 at *
  refine m_errorOfReference (n := n0) (lk := lk0) hm lk0R hz0 hn0 s0 (fun e he => ?_) (fun he => ?_)
  · have hb : e < 2 ^ 31 := by
      have := pr_ref_b hn0 he
      omega
    exact ⟨fun w => absurd w (nI_pos hb), fun _ => o_ri (hE0 k e ek hk he)⟩
  · refine ⟨fun _ => ?_, fun w => absurd (by decide) w⟩
    refine m_errorOfReads (n := n1) (lk := lk1) hm lk1R hz1 hn1 s1 (fun e he2 => ?_) (fun he2 => ?_)
    · have hb : e < 2 ^ 31 := by
        have := rs_e_b hz1 hn1 8 0 e (Nat.zero_le _) he2
        omega
      exact ⟨fun w => absurd w (nI_pos hb), fun _ => o_ri (hE1 k e ek hk he he2)⟩
    · refine ⟨fun _ => ?_, fun w => absurd (by decide) w⟩
      refine m_take (n0 := n0) (n1 := n1) (lk0 := lk0) (lk1 := lk1) hm (fun j F => (lkj j F).1) (fun j F => (lkj j F).2) hz0 hz1 ha0 hn0 hn1 s0 s1 he he2 (fun j8 t4 t4a t2 t3 t6 trq F8 => ?_)
      intro i9 f9 i10 f10 i11 f11
      have F11 : ∀ a z, ¬ (a = y ∧ (z = 20 ∨ z = 24 ∨ z = 37)) → i11 a z = j8 a z := fun a z n => by
        rw [f11, f10, f9]
        unfold o_up
        rw [if_neg (by omega), if_neg (by omega), if_neg (by omega)]
      have e37 : i11 y 37 = 1 := by rw [f11, o_up_k (by decide), f10, o_up_k (by decide), f9, o_up_s]
      have e20 : i11 y 20 = 0 := by rw [f11, o_up_k (by decide), f10, o_up_s]
      have e24 : i11 y 24 = 0 := by rw [f11, o_up_s]
      have l48 := cx_48 lk0 n0
      have hR8 := cx_R8 lk1 n1
      have gt := cx_gt (k := k) (lk0 := lk0) (n0 := n0) hk he2
      have hok := cx_sw (k := k) hk he he2
      rw [ek]
      refine m_callL (d := d + 2) (R := cx_R lk1 n1) (len := cx_len lk0 n0) (g := cx_g lk0 n0) (N := cx_N lk1 n1) (F := cx_F lk1 n1) (FQ := cx_Q lk1 n1) hm hk l48 hR8 (cx_ok he2) (by rw [F11 _ _ (by omega)]; exact t6) (by rw [F11 _ _ (by omega)]; exact t2) (fun p hp => by rw [F11 _ _ (by omega)]; exact (t3 p _ (getD_some hp)).2) (fun q hq => ?_) (fun j SB SK done Fm => ?_) (cx_R lk1 n1) 0 i11 (by omega) ⟨e20, Nat.zero_le _, fun k o h => by cases h⟩ ⟨e24, Nat.zero_le _, fun k o h => by cases h⟩ (fun q' hq' => absurd hq' (Nat.not_lt_zero _)) (fun a z _ _ => rfl)
      · obtain ⟨b1, b2, b3⟩ := trq q (cx_s lk1 n1 q) (getD_some hq)
        refine ⟨?_, fun z hz => ⟨?_, ?_⟩⟩
        · rw [F11 _ _ (by omega)]
          exact b1
        · rw [F11 _ _ (by omega)]
          exact b2 z hz
        · rw [F11 _ _ (by omega)]
          exact b3 z hz
      · have hD : ms_D j y (cx_OB k lk0 n0 lk1 n1) (cx_OK k lk0 n0 lk1 n1) := ms_OS SB SK gt.1.1 gt.1.2
        have hN' : mn_S j y (cx_nm lk0) (cx_len lk0 n0) (cx_f lk0 n0) := by
          refine ⟨⟨?_, cx_nm8 lk0, fun q c hq => ?_⟩, ?_, l48, fun p hp => ⟨cx_f4 hp, ?_⟩⟩
          · rw [Fm _ _ (by omega) (by omega), F11 _ _ (by omega), t4, cx_nm_len]
          · obtain ⟨c1, c2, c3⟩ := cx_nm_at hq
            refine ⟨c2, ?_⟩
            rw [Fm _ _ (by omega) (by omega), F11 _ _ (by omega), t4a q c1, c3]
          · rw [Fm _ _ (by omega) (by omega), F11 _ _ (by omega)]
            exact t2
          · rw [Fm _ _ (by omega) (by omega), F11 _ _ (by omega)]
            exact (t3 p _ (getD_some hp)).2
        refine m_sites (d := d) (len := cx_len lk0 n0) (OB := cx_OB k lk0 n0 lk1 n1) (OK := cx_OK k lk0 n0 lk1 n1) (nm := cx_nm lk0) (f := cx_f lk0 n0) hm hD hok hN' (fun j2 F2 => hK k j2 ek hk he he2 ⟨?_, fun q hq => ?_, ?_, Or.inr ⟨?_, cx_len lk0 n0, cx_OB k lk0 n0 lk1 n1, cx_OK k lk0 n0 lk1 n1, cx_nm lk0, cx_f lk0 n0, ?_, hok, mv_mn hN' (mv_md F2), cx_TXl hk he he2, rfl⟩⟩ (fun a z ha => ?_))
        · rw [F2 _ _ (by omega) (by omega), Fm _ _ (by omega) (by omega), F11 _ _ (by omega)]
          exact t6
        · obtain ⟨b1, b2⟩ := done q hq
          have tl : (cx_T k lk0 n0 lk1 n1 q).length ≤ 19 := cl_T_ok (k := k) (len := cx_len lk0 n0) (g := cx_g lk0 n0) hk (cx_ok he2) hq
          exact ⟨pm_same b1 (fun a _ _ => F2 _ _ (by omega) (by omega)), mt_same b2 (by omega) (F2 _ _ (by omega) (by omega)) (fun z _ _ => F2 _ _ (by omega) (by omega))⟩
        · exact ⟨mo_D_F hD.1 (by decide) F2, mo_D_F hD.2 (by decide) F2⟩
        · rw [F2 _ _ (by omega) (by omega), Fm _ _ (by omega) (by omega)]
          exact e37
        · exact ⟨mo_D_F hD.1 (by decide) F2, mo_D_F hD.2 (by decide) F2⟩
        · rw [F2 _ _ (by omega) (by omega), Fm _ _ (by omega) (by omega), F11 _ _ (by omega), F8 _ _ (by omega) (by omega)]

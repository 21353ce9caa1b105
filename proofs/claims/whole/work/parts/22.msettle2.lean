/-! THE REFERENCE: settle -/
def ms_F (y q : Nat) (i j : o_I) : Prop := ∀ a z, a ≠ y + 15 → a ≠ y + 16 → a ≠ y + 17 → ¬ ((a = y + 9 ∨ a = y + 10 ∨ a = y + 12) ∧ z = q) → j a z = i a z
theorem m_settle2 {G : o_G} {d : Nat} {i : o_I} {r : o_R} {P : o_P} {y q k n b len : Nat} {f : Nat → Int32} (hm : ly_m G r y) (hq : q < 8) (hk : k ≤ 3) (hn : i (y + 5) q = nI n) (hn16 : n ≤ 16) (hb : b ≤ 1) (hl : i y 2 = nI len) (hl48 : len ≤ 48) :
    ∀ m s hp v3 v4 v5 Q, s + m = len → mq_S hp y q k v3 v4 v5 Q → ms_F y q i hp → (∀ z, z < n → hp (y + 15) z = f z) →
      (∀ hp' v3 v4 v5, mq_S hp' y q k v3 v4 v5 (pl_all k b n len f (i (y + 3)) m s Q) → ms_F y q i hp' →
        Ok G (d + 2) mX10_settle P 14 [some (.ref y), some (.int (nI q)), some (.int (nI k)), some (.int v3), some (.int v4), some (.int v5), some (.int (nI (b + 1))), none, none, none, none, none, none] [] hp' r) →
      Ok G (d + 2) mX10_settle P 30 [some (.ref y), some (.int (nI q)), some (.int (nI k)), some (.int v3), some (.int v4), some (.int v5), some (.int (nI b)), some (.int (nI s)), none, none, none, none, none] [] hp r := by
  obtain ⟨eN, ZN⟩ := hm.2 7 5 1 8 rfl (by decide)
  intro m
  induction m with
  | zero =>
    intro s hp v3 v4 v5 Q hs hQ hF hrow h
    refine sX10_settle_30 y _ _ _ _ _ _ _ ⟨hm.1, fun _ x3 e3 => ?_, fun hn' => absurd ?_ hn'⟩
    · rw [e3, nI_1]
      exact h hp v3 v4 v5 hQ hF
    · rw [hF y 2 (by omega) (by omega) (by omega) (by omega), hl]
      exact nI_le (by omega) (by omega)
  | succ m ih =>
    intro s hp v3 v4 v5 Q hs hQ hF hrow h
    refine sX10_settle_30 y _ _ _ _ _ _ _ ⟨hm.1, fun hle => absurd hle ?_, fun _ => ?_⟩
    · rw [hF y 2 (by omega) (by omega) (by omega) (by omega), hl]
      exact nI_ge (by omega) (by omega)
    · rw [eN, ZN.len, nI_clamp (by omega), hF (y + 5) q (by omega) (by omega) (by omega) (by omega), hn]
      refine ⟨ZN.Y, vp_in_nI (by omega) (by decide), m_measure (d := d) hm hn16 (by rw [hF y 2 (by omega) (by omega) (by omega) (by omega)]; exact hl) hl48 (by omega) rfl (fun j a1 a2 => ?_)⟩
      have hFj : ms_F y q i j := fun a z b1 b2 b3 b4 => by rw [a1 a z b3]; exact hF a z b1 b2 b3 b4
      have hg : hp (y + 3) = i (y + 3) := funext (fun z => hF _ z (by omega) (by omega) (by omega) (by omega))
      generalize hfar : min (len - s) 19 = far at a2
      have hDv : ∀ jx, jx ≤ far → j (y + 17) (20 * n + jx) = nI (dp (dp_c f (i (y + 3)) s) n jx) := fun jx hjx => by
        rw [a2 n jx (Nat.le_refl n) hjx, hg, dp_c_cong (len := len) hrow (fun _ _ => rfl) (by omega)]
      have hDb : ∀ jx, jx ≤ far → dp (dp_c f (i (y + 3)) s) n jx ≤ 100 := fun jx hjx => by
        have := dp_hi (dp_c f (i (y + 3)) s) (dp_c1 _ _ _) n jx
        omega
      refine m_settle1 (d := d) (D := dp (dp_c f (i (y + 3)) s) n) (len := len) hm hq hk hn16 hb (by omega) hl48 hfar.symm hDb (i := j) (by rw [hFj (y + 5) q (by omega) (by omega) (by omega) (by omega)]; exact hn) hDv far 1 j v3 v4 v5 Q (by omega) (by omega) (mq_same hQ (fun a ha => a1 a q (by omega))) (fun _ _ _ => rfl) (fun hp' u3 u4 u5 c1 c2 => ?_)
      refine ih (s + 1) hp' u3 u4 u5 _ (by omega) c1 (fun a z b1 b2 b3 b4 => by rw [c2 a z b4]; exact hFj a z b1 b2 b3 b4) (fun z hz => by rw [c2 _ _ (by omega), a1 _ _ (by omega)]; exact hrow z hz) (fun hp2 w3 w4 w5 e1 e2 => h hp2 w3 w4 w5 ?_ e2)
      show mq_S hp2 y q k w3 w4 w5 (pl_all k b n len f (i (y + 3)) m (s + 1) (pl_row k s b (dp (dp_c f (i (y + 3)) s) n) (min (len - s) 19) Q))
      rw [hfar]
      have e := pl_fw_row k s b (dp (dp_c f (i (y + 3)) s) n) Q far 0
      rw [Nat.zero_add, Nat.zero_add] at e
      rw [← e]
      exact e1
/-- what the reference holds of read q behind settle -/
def mr_S (j : o_I) (y q : Nat) (R : pl_Q) : Prop := j (y + 8) q = nI (pl_st R) ∧ j (y + 13) q = 0 ∧ ∀ l s e b fe ls, R = some (l, s, e, b, fe, ls) → j (y + 9) q = nI s ∧ j (y + 10) q = nI e ∧ j (y + 11) q = nI l ∧ j (y + 12) q = nI b
theorem m_settle {G : o_G} {d : Nat} {i : o_I} {r : o_R} {post : o_I → Prop} {y q k n len : Nat} {f : Nat → Int32} (hm : ly_m G r y) (hq : q < 8) (hk : k ≤ 3) (hn : i (y + 5) q = nI n) (hn16 : n ≤ 16) (hl : i y 2 = nI len) (hl48 : len ≤ 48) (hf : f = fun z => i (y + 6) (16 * q + z)) (hlet : ∀ z, z < n → ∃ v : Nat, v ≤ 4 ∧ f z = nI v)
    (h : ∀ j, mr_S j y q (pl_res k n len f (i (y + 3))) → (∀ a z, a ≠ y + 15 → a ≠ y + 16 → a ≠ y + 17 → ¬ (y + 8 ≤ a ∧ a ≤ y + 13 ∧ z = q) → j a z = i a z) → post j) : SpV G (d + 2) mX10_settle [.ref y, .int (nI q), .int (nI k)] post i r := by
  obtain ⟨eD, ZD⟩ := hm.2 13 11 1 8 rfl (by decide)
  obtain ⟨eS, ZS⟩ := hm.2 10 8 1 8 rfl (by decide)
  obtain ⟨eP, ZP⟩ := hm.2 15 13 1 8 rfl (by decide)
  have hcq : (nI q).toNatClampNeg = q := nI_clamp (by omega)
  have inq : vp_in (nI q) 8 := vp_in_nI (by omega) (by decide)
  -- one strand
  have strand : ∀ b hp v3 v4 v5 Q, b ≤ 1 → mq_S hp y q k v3 v4 v5 Q → ms_F y q i hp → (∀ hp' v3 v4 v5, mq_S hp' y q k v3 v4 v5 (pl_all k b n len (sq_F n f b) (i (y + 3)) len 0 Q) → ms_F y q i hp' → Ok G (d + 2) mX10_settle (fun v j q => q = r ∧ v = none ∧ post j) 14 [some (.ref y), some (.int (nI q)), some (.int (nI k)), some (.int v3), some (.int v4), some (.int v5), some (.int (nI (b + 1))), none, none, none, none, none, none] [] hp' r) →
      Ok G (d + 2) mX10_settle (fun v j q => q = r ∧ v = none ∧ post j) 14 [some (.ref y), some (.int (nI q)), some (.int (nI k)), some (.int v3), some (.int v4), some (.int v5), some (.int (nI b)), none, none, none, none, none, none] [] hp r := by
    intro b hp v3 v4 v5 Q hb hQ hF hnext
    have hL : (fun z => hp (y + 6) (16 * q + z)) = f := by
      rw [hf]
      exact funext (fun z => hF _ _ (by omega) (by omega) (by omega) (by omega))
    refine sX10_settle_14 y _ _ _ _ _ _ ⟨fun h2 => absurd h2 (nI_ge (b := 2) (by omega) (by decide)), fun _ => ⟨hm.1, m_turn (n := n) hm hq hb (by rw [hF _ _ (by omega) (by omega) (by omega) (by omega)]; exact hn) hn16 (fun z hz => ?_) (fun j t1 t2 => ?_)⟩⟩
    · obtain ⟨v, hv, e⟩ := hlet z hz
      refine ⟨v, hv, ?_⟩
      rw [← e, ← hL]
    · rw [hL] at t1
      exact m_settle2 (f := sq_F n f b) hm hq hk hn hn16 hb hl hl48 len 0 j v3 v4 v5 Q (by omega) (mq_same hQ (fun a ha => t2 a q (by omega) (by omega))) (fun a z b1 b2 b3 b4 => by rw [t2 a z b1 b2]; exact hF a z b1 b2 b3 b4) (fun z hz => (t1 z hz).1) hnext
  refine sp_of 10 (by decide +kernel) (Nat.le_of_ble_eq_true rfl) rfl (sX10_settle_0 y _ _ (fun x1 e1 => ?_))
  rw [nI_1] at e1
  refine strand 0 i x1 _ _ none (by decide) e1 (fun _ _ _ _ _ _ => rfl) (fun hp v3 v4 v5 hQ hF => ?_)
  refine strand 1 hp v3 v4 v5 _ (by decide) hQ hF (fun hp2 w3 w4 w5 hQ2 hF2 => ?_)
  have hQ2 : mq_S hp2 y q k w3 w4 w5 (pl_res k n len f (i (y + 3))) := hQ2
  refine sX10_settle_14 y _ _ _ _ _ _ ⟨fun _ => ?_, fun h2 => absurd (by decide) h2⟩
  rw [eD, eS, eP, ZD.len, ZS.len, ZP.len, hcq]
  refine ⟨hm.1, ZD.Y, inq, fun i5 e5 x8 e8 => ⟨ZS.Y, inq, fun i11 e11 => ⟨ZP.Y, inq, fun i14 e14 => o_rv (h i14 ?_ (fun a z b1 b2 b3 b4 => ?_))⟩⟩⟩
  · have o14 : ∀ a z, a ≠ y + 8 → a ≠ y + 11 → a ≠ y + 13 → i14 a z = hp2 a z := fun a z b1 b2 b3 => by rw [e14, o_up_a b3, e11, o_up_a b1, e5, o_up_a b2]
    have v8 : i14 (y + 8) q = x8 := by rw [e14, o_up_a (by omega), e11, o_up_s]
    have v11 : i14 (y + 11) q = w3 := by rw [e14, o_up_a (by omega), e11, o_up_a (by omega), e5, o_up_s]
    generalize pl_res k n len f (i (y + 3)) = R at hQ2
    refine ⟨?_, by rw [e14, o_up_s], fun l s e b fe ls hR => ?_⟩
    · rw [v8, e8]
      match R, hQ2 with
      | none, hQ2 =>
        have hQ2 : w3 = nI (k + 1) := hQ2
        rw [hQ2, if_neg (nI_ge (by omega) (by omega))]
        rfl
      | some (l, s, e, b, fe, ls), hQ2 =>
        obtain ⟨q1, q2, q3, -, -, -, q7, -, -, -, q11, q12⟩ := hQ2
        rw [q1, if_pos (nI_le q7 (by omega)), q2, q3]
        show _ = nI (if ls < fe then 0 else 2)
        by_cases hlt : ls < fe
        · rw [if_pos (nI_lt hlt (by omega)), if_pos hlt]
          rfl
        · rw [if_neg (nI_nlt (by omega) (by omega)), if_neg hlt]
          rfl
    · rw [hR] at hQ2
      obtain ⟨q1, -, -, q4, q5, q6, -⟩ := hQ2
      exact ⟨by rw [o14 _ _ (by omega) (by omega) (by omega)]; exact q4, by rw [o14 _ _ (by omega) (by omega) (by omega)]; exact q5, by rw [v11]; exact q1, by rw [o14 _ _ (by omega) (by omega) (by omega)]; exact q6⟩
  · have k1 : i14 a z = i11 a z := by
      rw [e14]
      by_cases e : a = y + 13
      · rw [o_up_k (fun w => b4 ⟨by omega, by omega, w⟩)]
      · rw [o_up_a e]
    have k2 : i11 a z = i5 a z := by
      rw [e11]
      by_cases e : a = y + 8
      · rw [o_up_k (fun w => b4 ⟨by omega, by omega, w⟩)]
      · rw [o_up_a e]
    have k3 : i5 a z = hp2 a z := by
      rw [e5]
      by_cases e : a = y + 11
      · rw [o_up_k (fun w => b4 ⟨by omega, by omega, w⟩)]
      · rw [o_up_a e]
    rw [k1, k2, k3]
    exact hF2 a z b1 b2 b3 (fun w => b4 ⟨by omega, by omega, w.2⟩)

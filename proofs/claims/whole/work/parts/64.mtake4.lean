/-! THE REFERENCE: take, whole -/
theorem m_take {G : o_G} {d : Nat} {i : o_I} {r : o_R} {post : o_I → Prop} {y n0 n1 : Nat} {lk0 lk1 : Nat → Int32} (hm : ly_m G r y) (hlk0 : ∀ j, mt_F y i j → lk_R G r j y 0 lk0) (hlk1 : ∀ j, mt_F y i j → lk_R G r j y 1 lk1) (hz0 : ∀ k, n0 ≤ k → lk0 k = 0) (hz1 : ∀ k, n1 ≤ k → lk1 k = 0) (ha0 : ∀ k, k < n0 → tx_al (lk0 k)) (hn0 : n0 ≤ 100) (hn1 : n1 ≤ 420) (hs0 : i (y + 2) 0 = nI n0) (hs1 : i (y + 2) 1 = nI n1) (hr0 : pr_ref lk0 n0 = none) (hr1 : rs_e lk1 n1 8 0 = none)
    (h : ∀ j, j y 4 = nI (pr_nm lk0 1) → (∀ q, q < pr_nm lk0 1 → j (y + 4) q = lk0 (1 + q)) → j y 2 = nI (pr_b lk0 n0 49 (1 + pr_nm lk0 1 + 1) []).length → (∀ q c, (pr_b lk0 n0 49 (1 + pr_nm lk0 1 + 1) [])[q]? = some c → c < 4 ∧ j (y + 3) q = nI c) → j y 6 = nI (rs_l lk1 n1 8 0).length → (∀ q s, (rs_l lk1 n1 8 0)[q]? = some s → mqr_S j y q lk1 s) → mt_F y i j → post j) : SpV G (d + 3) mX10_take [.ref y] post i r := by
  obtain ⟨e4, Z4⟩ := hm.2 5 4 2 8 rfl (by decide)
  have k8 : pr_nm lk0 1 ≤ 8 := px_run_le _ _ _
  have er : pr_ref lk0 n0 = if lk0 0 = 62 then (if 1 ≤ pr_nm lk0 1 ∧ lk0 (1 + pr_nm lk0 1) = 10 then pr_e lk0 n0 49 (1 + pr_nm lk0 1 + 1) 0 else some (1 + pr_nm lk0 1)) else some 0 := rfl
  rw [er] at hr0
  have h62 : lk0 0 = 62 := by
    by_cases u : lk0 0 = 62
    · exact u
    · rw [if_neg u] at hr0
      cases hr0
  rw [if_pos h62] at hr0
  have h10 : 1 ≤ pr_nm lk0 1 ∧ lk0 (1 + pr_nm lk0 1) = 10 := by
    by_cases u : 1 ≤ pr_nm lk0 1 ∧ lk0 (1 + pr_nm lk0 1) = 10
    · exact u
    · rw [if_neg u] at hr0
      cases hr0
  rw [if_pos h10] at hr0
  have hvis : ∀ q, q < pr_nm lk0 1 → px_vis (lk0 (1 + q)) = true := fun q hq => px_run_in (fun q => px_vis (lk0 q)) 8 1 q hq
  have hkn : 1 + pr_nm lk0 1 < n0 := Nat.lt_of_not_le (fun q => by have := h10.2; rw [hz0 _ q] at this; exact absurd this (by decide))
  generalize pr_nm lk0 1 = k at *
  -- there is a first line behind the name
  have han : 1 + k + 1 < n0 := by
    refine Nat.lt_of_not_le (fun q => ?_)
    have e : pr_e lk0 n0 49 (1 + k + 1) 0 = if 1 ≤ pr_k lk0 (1 + k + 1) 0 ∧ lk0 (1 + k + 1 + pr_k lk0 (1 + k + 1) 0) = 10 then (if 1 + k + 1 + pr_k lk0 (1 + k + 1) 0 + 1 < n0 then pr_e lk0 n0 48 (1 + k + 1 + pr_k lk0 (1 + k + 1) 0 + 1) (0 + pr_k lk0 (1 + k + 1) 0) else none) else some (1 + k + 1 + pr_k lk0 (1 + k + 1) 0) := rfl
    rw [e, hz0 (1 + k + 1 + pr_k lk0 (1 + k + 1) 0) (by omega), if_neg (fun u => absurd u.2 (by decide))] at hr0
    cases hr0
  have hBL := nb_ref hz0 49 (1 + k + 1) [] (by decide) (by decide) han hr0
  have hall := nb_all hz0 49 (1 + k + 1) 0 (by decide) (by decide) han hr0
  have h48 := pr_b_len lk0 n0 49 (1 + k + 1) [] (by decide)
  generalize pr_b lk0 n0 49 (1 + k + 1) [] = BL at *
  -- the name
  have name : ∀ m q j, q + m = k → j y 4 = nI k → (∀ z, z < q → j (y + 4) z = lk0 (1 + z)) → (∀ a z, ¬ (a = y ∧ z = 4) → a ≠ y + 4 → j a z = i a z) → Ok G (d + 3) mX10_take (fun v j q => q = r ∧ v = none ∧ post j) 14 [some (.ref y), some (.int (nI q)), none, none] [] j r := by
    intro m
    induction m with
    | zero =>
      intro q j hq h4 hN F
      have hq : q = k := by omega
      subst hq
      refine sX10_take_14 y _ ⟨hm.1, fun _ i3 f3 x4 ex => ?_, fun u => absurd (by rw [h4]; exact nI_le (by omega) (by omega)) u⟩
      have k3 : ∀ a z, ¬ (a = y ∧ z = 2) → i3 a z = j a z := fun a z na => by
        rw [f3]
        by_cases e : a = y
        · rw [o_up_k (fun u => na ⟨e, u⟩)]
        · rw [o_up_a e]
      have ex : x4 = nI (1 + q + 1) := by
        rw [ex, k3 _ _ (by omega), h4, show nI q + 2 = nI (q + 2) from nI_add q 2]
        congr 1
        omega
      rw [ex]
      have M3 : mt_F y i i3 := fun a z n1 n2 => by rw [k3 a z (by omega)]; exact F a z (by omega) (by omega)
      refine m_takeB (d := d + 1) (i := i3) (n := n0) (p0 := 1 + q + 1) (BL := BL) hm (fun j2 F2 => hlk0 j2 (fun a z n1 n2 => by rw [F2 a z n1 n2]; exact M3 a z n1 n2)) hn0 (by rw [M3 _ _ (by omega) (by omega)]; exact hs0) h48 hall (fun j5 g2 gB G5 g6 => ?_) (n0 - (1 + q + 1)) (1 + q + 1) [] i3 (by omega) (Nat.le_refl _) (by rw [hBL]) (by rw [f3, o_up_s]; rfl) (fun z c hz => by cases hz) (fun _ _ _ _ => rfl)
      have M5 : mt_F y i j5 := fun a z n1 n2 => by rw [G5 a z (by omega) (by omega)]; exact M3 a z n1 n2
      refine m_takeRs (i := j5) (n := n1) (RL := rs_l lk1 n1 8 0) hm (fun j2 F2 => hlk1 j2 (fun a z n1 n2 => by rw [F2 a z n1 n2]; exact M5 a z n1 n2)) hz1 hn1 (by rw [M5 _ _ (by omega) (by omega)]; exact hs1) (fun j7 g7 gR G7 => ?_) 8 0 [] j5 rfl (Nat.zero_le _) hr1 rfl (by rw [g6]; rfl) (fun z c hz => by cases hz) (fun _ _ _ _ => rfl)
      refine h j7 ?_ (fun z hz => ?_) ?_ (fun z c hz => ?_) g7 gR (fun a z n1 n2 => by rw [G7 a z (by omega) (by omega)]; exact M5 a z n1 n2)
      · rw [G7 _ _ (by omega) (by omega), G5 _ _ (by omega) (by omega), k3 _ _ (by omega)]
        exact h4
      · rw [G7 _ _ (by omega) (by omega), G5 _ _ (by omega) (by omega), k3 _ _ (by omega)]
        exact hN z hz
      · rw [G7 _ _ (by omega) (by omega)]
        exact g2
      · rw [G7 _ _ (by omega) (by omega)]
        exact gB z c hz
    | succ m ih =>
      intro q j hq h4 hN F
      have L := hlk0 j (fun a z n1 n2 => F a z (by omega) (by omega))
      obtain ⟨q0, hq0, eq0⟩ := tx_al_n (ha0 (1 + q) (by omega))
      refine sX10_take_14 y _ ⟨hm.1, fun u => absurd u (by rw [h4]; exact nI_ge (by omega) (by omega)), fun _ => ?_⟩
      rw [show (1 : Int32) + nI q = nI (1 + q) from nI_add 1 q]
      refine L _ _ _ (by omega) ?_
      rw [e4, Z4.len, nI_clamp (n := q) (by omega), eq0, tw_ch hq0, ← eq0]
      refine ⟨Z4.Y, vp_in_nI (by omega) (by decide), fun i8 f8 x9 e9 => ?_⟩
      rw [e9, nI_1]
      refine ih (q + 1) i8 (by omega) (by rw [f8, o_up_a (by omega)]; exact h4) (fun z hz => ?_) (fun a z n1 n2 => by rw [f8, o_up_a n2]; exact F a z n1 n2)
      rw [f8]
      by_cases e : z = q
      · rw [e, o_up_s]
      · rw [o_up_k e]
        exact hN z (by omega)
  refine sp_of 3 (by decide +kernel) (Nat.le_of_ble_eq_true rfl) rfl (sX10_take_0 y ⟨hm.1, ?_⟩)
  refine m_newline (t := 0) (a := 0) (e := 1 + k) hm (hlk0 i (fun _ _ _ _ => rfl)) (Nat.zero_le _) (by omega) (fun z _ hz2 => ?_) h10.2 (fun i3 f3 => ?_)
  · by_cases e : z = 0
    · rw [e, h62]
      decide
    · have := hvis (z - 1) (by omega)
      rw [show 1 + (z - 1) = z by omega] at this
      exact vis_10 this
  · refine name k 0 i3 (Nat.zero_add _) ?_ (fun z hz => absurd hz (Nat.not_lt_zero z)) (fun a z n1 n2 => ?_)
    · rw [f3, o_up_s, nI_m1 (by omega)]
      congr 1
      omega
    · rw [f3]
      by_cases e : a = y
      · rw [o_up_k (fun u => n1 ⟨e, u⟩)]
      · rw [o_up_a e]

/-! THE REFERENCE: errorOfReads -/
def rr_z (lk : Nat → Int32) (a : Nat) : Nat := rr_c lk a + rr_k lk a + 1
/-- the place of the first error from a on, f reads may still come -/
def rs_e (lk : Nat → Int32) (n : Nat) : Nat → Nat → Option Nat
  | 0, a => if n ≤ a then none else some a
  | f + 1, a => if n ≤ a then none else match rr_e lk a with
    | some e => some e
    | none => rs_e lk n f (rr_z lk a)
theorem rr_z_le {lk : Nat → Int32} {a n : Nat} (hz : ∀ k, n ≤ k → lk k = 0) (h : rr_e lk a = none) : rr_z lk a ≤ n := by
  unfold rr_e at h
  split at h
  · split at h
    · split at h
      · split at h
        · split at h
          · split at h
            · rename_i h6
              have : ¬ n ≤ rr_c lk a + rr_q lk a := fun q => by have := h6.2; rw [hz _ q] at this; exact absurd this (by decide)
              unfold rr_z
              omega
            · cases h
          · cases h
        · cases h
      · cases h
    · cases h
  · cases h
theorem m_reads1 {G : o_G} {d : Nat} {i : o_I} {r : o_R} {post : Int32 → o_I → Prop} {y n : Nat} {lk : Nat → Int32} (hm : ly_m G r y) (hlk : lk_R G r i y 1 lk) (hz : ∀ k, n ≤ k → lk k = 0) (hn : n ≤ 420) (hsz : i (y + 2) 1 = nI n) :
    ∀ f a, f ≤ 8 → a ≤ n → (∀ e, rs_e lk n f a = some e → post (nI e) i) → (rs_e lk n f a = none → post (-1) i) →
      Ok G (d + 3) mX10_errorOfReads (fun v j q => q = r ∧ ∃ x, v = some (.int x) ∧ post x j) 4 [some (.ref y), some (.int (nI a)), some (.int (nI (8 - f))), none, none] [] i r := by
  obtain ⟨e1, Z1⟩ := hm.2 1 2 1 2 rfl (by decide)
  intro f
  induction f with
  | zero =>
    intro a hf ha hE hK
    refine sX10_errorOfReads_4 y _ _ ?_
    rw [e1, Z1.len, show (1 : Int32).toNatClampNeg = 1 from rfl, hsz]
    have zl : nI n ≤ nI a ↔ n ≤ a := nI_leI (by omega) (by omega)
    unfold rs_e at hE hK
    refine ⟨hm.1, Z1.Y, vp_in_nI (n := 1) (by decide) (by decide), fun q => ?_, fun q => ⟨fun _ => ?_, fun u => absurd rfl u⟩⟩
    · rw [if_pos (zl.mp q)] at hK
      exact o_ri (hK rfl)
    · rw [if_neg (fun u => q (zl.mpr u))] at hE
      exact o_ri (hE _ rfl)
  | succ f ih =>
    intro a hf ha hE hK
    refine sX10_errorOfReads_4 y _ _ ?_
    rw [e1, Z1.len, show (1 : Int32).toNatClampNeg = 1 from rfl, hsz]
    have zl : nI n ≤ nI a ↔ n ≤ a := nI_leI (by omega) (by omega)
    have z8 : nI (8 - (f + 1)) = 8 ↔ 8 - (f + 1) = 8 := nI_eq (b := 8) (by omega) (by decide)
    unfold rs_e at hE hK
    refine ⟨hm.1, Z1.Y, vp_in_nI (n := 1) (by decide) (by decide), fun q => ?_, fun q => ⟨fun u => by have := z8.mp u; omega, fun _ => ?_⟩⟩
    · rw [if_pos (zl.mp q)] at hK
      exact o_ri (hK rfl)
    · have han : a < n := Nat.lt_of_not_le (fun u => q (zl.mpr u))
      rw [if_neg (by omega)] at hE hK
      have bad : ∀ e, rr_e lk a = some e → post (nI e) i := fun e he => hE e (by rw [he])
      have good : rr_e lk a = none → (∀ e, rs_e lk n f (rr_z lk a) = some e → post (nI e) i) ∧ (rs_e lk n f (rr_z lk a) = none → post (-1) i) := fun he => by
        rw [he] at hE hK
        exact ⟨hE, hK⟩
      have nm8 : pr_nm lk (a + 1) ≤ 8 := px_run_le _ _ _
      have k16 : rr_k lk a ≤ 16 := px_run_le _ _ _
      have qk : rr_q lk a ≤ rr_k lk a := px_run_le _ _ _
      have eb : rr_b lk a = a + 1 + pr_nm lk (a + 1) + 1 := rfl
      have ec : rr_c lk a = rr_b lk a + rr_k lk a + 1 + 1 + 1 := rfl
      refine hlk _ _ _ (by omega) ⟨fun h1 => ?_, fun h1 => o_ri (bad a (by unfold rr_e; rw [if_neg h1]))⟩
      rw [nI_1]
      have hbn : ¬ (1 ≤ pr_nm lk (a + 1) ∧ lk (a + 1 + pr_nm lk (a + 1)) = 10) → post (nI (a + 1 + pr_nm lk (a + 1))) i := fun hb => bad _ (by unfold rr_e; rw [if_pos h1, if_neg hb])
      refine m_behindName (n := n) hm hlk (by omega) (fun h2a h2b => ⟨fun _ => ?_, fun u => absurd (nI_pos' (by omega)) u⟩) (fun hb => ⟨fun u => ?_, fun _ => ?_⟩)
      · have h2 : 1 ≤ pr_nm lk (a + 1) ∧ lk (a + 1 + pr_nm lk (a + 1)) = 10 := ⟨h2a, h2b⟩
        rw [← eb]
        -- the qualities
        have loopQ : 4 ≤ rr_k lk a ∧ lk (rr_b lk a + rr_k lk a) = 10 → lk (rr_b lk a + rr_k lk a + 1) = 43 → lk (rr_b lk a + rr_k lk a + 1 + 1) = 10 → ∀ s v, v + s = rr_k lk a → v + px_run (fun z => px_vis (lk z)) (rr_c lk a + v) s = rr_q lk a → Ok G (d + 3) mX10_errorOfReads (fun v j q => q = r ∧ ∃ x, v = some (.int x) ∧ post x j) 142 [some (.ref y), some (.int (nI (rr_c lk a + v))), some (.int (nI (8 - (f + 1)))), some (.int (nI (rr_k lk a))), some (.int (nI v))] [] i r := by
          intro h3 h4 h5 s
          have er : rr_e lk a = if rr_q lk a = rr_k lk a ∧ lk (rr_c lk a + rr_q lk a) = 10 then none else some (rr_c lk a + rr_q lk a) := by
            unfold rr_e
            rw [if_pos h1, if_pos h2, if_pos h3, if_pos h4, if_pos h5]
          induction s with
          | zero =>
            intro v hv hr
            have hv : v = rr_k lk a := by omega
            have hr : v = rr_q lk a := hr
            refine sX10_errorOfReads_142 y _ _ _ _ ⟨fun _ => ⟨hm.1, hlk _ _ _ (by omega) ⟨fun hl x5 e5 x6 e6 => ?_, fun hl => ?_⟩⟩, fun u => absurd (nI_le (by omega) (by omega)) u⟩
            · have hnone : rr_e lk a = none := by rw [er, if_pos ⟨by omega, by rw [← hr]; exact hl⟩]
              have hgo := good hnone
              have hzl := rr_z_le hz hnone
              have ez : rr_c lk a + v + 1 = rr_z lk a := by rw [hv]; rfl
              rw [e5, e6, nI_1, nI_1, ez, show 8 - (f + 1) + 1 = 8 - f by omega]
              exact ih (rr_z lk a) (by omega) hzl hgo.1 hgo.2
            · rw [hr]
              exact o_ri (bad _ (by rw [er, if_neg (fun w => hl (by rw [hr]; exact w.2))]))
          | succ s ihs =>
            intro v hv hr
            have hun : px_run (fun z => px_vis (lk z)) (rr_c lk a + v) (s + 1) = if px_vis (lk (rr_c lk a + v)) = true then px_run (fun z => px_vis (lk z)) (rr_c lk a + v + 1) s + 1 else 0 := rfl
            rw [hun] at hr
            refine sX10_errorOfReads_142 y _ _ _ _ ⟨fun u => absurd u (nI_ge (by omega) (by omega)), fun _ => ⟨hm.1, hlk _ _ _ (by omega) (m_visible (fun u => ⟨fun _ x11 e11 x12 e12 => ?_, fun w => absurd w (by decide)⟩) (fun u => ⟨fun w => absurd rfl w, fun _ => ?_⟩))⟩⟩
            · rw [if_pos u] at hr
              rw [e11, e12, nI_1, nI_1]
              exact ihs (v + 1) (by omega) (by rw [← hr, show rr_c lk a + (v + 1) = rr_c lk a + v + 1 by omega]; omega)
            · rw [if_neg (by rw [u]; decide), Nat.add_zero] at hr
              rw [hr]
              exact o_ri (bad _ (by rw [er, if_neg (fun w => by have := w.1; omega)]))
        -- behind the letters
        have fin : ∀ v, v = rr_k lk a → Ok G (d + 3) mX10_errorOfReads (fun v j q => q = r ∧ ∃ x, v = some (.int x) ∧ post x j) 80 [some (.ref y), some (.int (nI (rr_b lk a))), some (.int (nI (8 - (f + 1)))), some (.int (nI v)), none] [] i r := by
          intro v hv
          subst hv
          have z4 : nI (rr_k lk a) < 4 ↔ rr_k lk a < 4 := nI_ltI (b := 4) (by omega) (by decide)
          have b3 : ¬ (4 ≤ rr_k lk a ∧ lk (rr_b lk a + rr_k lk a) = 10) → post (nI (rr_b lk a + rr_k lk a)) i := fun hb => bad _ (by unfold rr_e; rw [if_pos h1, if_pos h2, if_neg hb])
          refine sX10_errorOfReads_80 y _ _ _ (fun x1 ex => ?_)
          rw [nI_add] at ex
          subst ex
          refine ⟨fun u => o_ri (b3 (fun w => by have := z4.mp u; omega)), fun u => ⟨hm.1, hlk _ _ _ (by omega) ⟨fun h3b => ?_, fun h3b => o_ri (b3 (fun w => h3b w.2))⟩⟩⟩
          have h3 : 4 ≤ rr_k lk a ∧ lk (rr_b lk a + rr_k lk a) = 10 := ⟨Nat.le_of_not_lt (fun w => u (z4.mpr w)), h3b⟩
          rw [nI_1, show nI (rr_b lk a + rr_k lk a) + 2 = nI (rr_b lk a + rr_k lk a + 1 + 1) from nI_add _ 2, show nI (rr_b lk a + rr_k lk a) + 3 = nI (rr_c lk a) from nI_add _ 3]
          refine hlk _ _ _ (by omega) ⟨fun h4 => hlk _ _ _ (by omega) ⟨fun h5 x10 e10 => ?_, fun h5 => o_ri (bad _ (by unfold rr_e; rw [if_pos h1, if_pos h2, if_pos h3, if_pos h4, if_neg h5]))⟩, fun h4 => o_ri (bad _ (by unfold rr_e; rw [if_pos h1, if_pos h2, if_pos h3, if_neg h4]))⟩
          rw [e10]
          exact loopQ h3 h4 h5 (rr_k lk a) 0 (Nat.zero_add _) (Nat.zero_add _)
        have loopL : ∀ s v, v + s = 16 → v + px_run (fun z => px_let (lk z)) (rr_b lk a + v) s = rr_k lk a → Ok G (d + 3) mX10_errorOfReads (fun v j q => q = r ∧ ∃ x, v = some (.int x) ∧ post x j) 54 [some (.ref y), some (.int (nI (rr_b lk a))), some (.int (nI (8 - (f + 1)))), some (.int (nI v)), none] [] i r := by
          intro s
          induction s with
          | zero =>
            intro v hv hr
            exact sX10_errorOfReads_54 y _ _ _ ⟨fun _ => fin v hr, fun u => absurd (nI_le (a := 16) (b := v) (by omega) (by omega)) u⟩
          | succ s ihs =>
            intro v hv hr
            have hun : px_run (fun z => px_let (lk z)) (rr_b lk a + v) (s + 1) = if px_let (lk (rr_b lk a + v)) = true then px_run (fun z => px_let (lk z)) (rr_b lk a + v + 1) s + 1 else 0 := rfl
            rw [hun] at hr
            refine sX10_errorOfReads_54 y _ _ _ ⟨fun u => absurd u (nI_ge (b := 16) (by omega) (by decide)), fun _ => ⟨hm.1, ?_⟩⟩
            rw [nI_add]
            refine hlk _ _ _ (by omega) (m_codeOf ⟨fun u => fin v ?_, fun u x6 e6 => ?_⟩)
            · rw [if_neg (fun w => by unfold px_let at w; simp [u] at w)] at hr
              exact hr
            · rw [if_pos (by unfold px_let; simp [u])] at hr
              rw [e6, nI_1]
              exact ihs (v + 1) (by omega) (by rw [← hr, show rr_b lk a + (v + 1) = rr_b lk a + v + 1 by omega]; omega)
        exact loopL 16 0 rfl (Nat.zero_add _)
      · exfalso
        have := pk_sub_toInt (a := a + 1 + pr_nm lk (a + 1)) (b := 1000) (by omega) (by decide)
        rw [Int32.le_iff_toInt_le] at u
        have u : (0 : Int32).toInt ≤ (nI (a + 1 + pr_nm lk (a + 1)) - nI 1000).toInt := u
        rw [this, Int32.toInt_zero] at u
        omega
      · have e : nI (a + 1 + pr_nm lk (a + 1)) - 1000 + 1000 = nI (a + 1 + pr_nm lk (a + 1)) := Int32.sub_add_cancel _ _
        rw [e]
        exact o_ri (hbn hb)
theorem m_errorOfReads {G : o_G} {d : Nat} {i : o_I} {r : o_R} {post : Int32 → o_I → Prop} {y n : Nat} {lk : Nat → Int32} (hm : ly_m G r y) (hlk : lk_R G r i y 1 lk) (hz : ∀ k, n ≤ k → lk k = 0) (hn : n ≤ 420) (hsz : i (y + 2) 1 = nI n) (hE : ∀ e, rs_e lk n 8 0 = some e → post (nI e) i) (hK : rs_e lk n 8 0 = none → post (-1) i) : SpI G (d + 3) mX10_errorOfReads [.ref y] post i r :=
  sp_of 4 (by decide +kernel) (Nat.le_of_ble_eq_true rfl) rfl (sX10_errorOfReads_0 y (m_reads1 hm hlk hz hn hsz 8 0 (by decide) (Nat.zero_le _) hE hK))

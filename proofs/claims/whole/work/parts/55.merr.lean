/-! THE REFERENCE: behindName, errorOfReference -/
/-- look gives the chars of text t -/
def lk_R (G : o_G) (r : o_R) (i : o_I) (y t : Nat) (lk : Nat → Int32) : Prop := ∀ (d : Nat) (post : Int32 → o_I → Prop) (k : Nat), k ≤ 600 → post (lk k) i → SpI G (d + 1) mX10_look [.ref y, .int (nI t), .int (nI k)] post i r
theorem m_behindName {G : o_G} {d : Nat} {i : o_I} {r : o_R} {post : Int32 → o_I → Prop} {y t p n : Nat} {lk : Nat → Int32} (hm : ly_m G r y) (hlk : lk_R G r i y t lk) (hp : p ≤ 500) (h1 : 1 ≤ pr_nm lk p → lk (p + pr_nm lk p) = 10 → post (nI (p + pr_nm lk p + 1)) i) (h0 : ¬ (1 ≤ pr_nm lk p ∧ lk (p + pr_nm lk p) = 10) → post (nI (p + pr_nm lk p) - 1000) i) : SpI G (d + 2) mX10_behindName [.ref y, .int (nI t), .int (nI p)] post i r := by
  have kle : pr_nm lk p ≤ 8 := px_run_le _ _ _
  have fin : ∀ v, v = pr_nm lk p → Ok G (d + 2) mX10_behindName (fun v j q => q = r ∧ ∃ x, v = some (.int x) ∧ post x j) 28 [some (.ref y), some (.int (nI t)), some (.int (nI p)), some (.int (nI v))] [] i r := by
    intro v hv
    have z : nI v = 0 ↔ v = 0 := nI_eq (b := 0) (by omega) (by decide)
    refine sX10_behindName_28 y _ _ _ ?_
    rw [nI_add]
    refine ⟨fun q => ?_, fun q => ⟨hm.1, hlk _ _ _ (by omega) (fun x5 e5 => ?_)⟩⟩
    · have := h0 (fun u => by have := z.mp q; omega)
      rw [← hv] at this
      exact o_ri this
    · rw [hv] at e5
      by_cases u : lk (p + pr_nm lk p) = 10
      · rw [if_pos u, nI_1] at e5
        rw [e5]
        exact o_ri (h1 (Nat.pos_of_ne_zero (fun w => q (z.mpr (by omega)))) u)
      · rw [if_neg u] at e5
        rw [e5]
        exact o_ri (h0 (fun w => u w.2))
  have loop : ∀ m v, v + m = 8 → v + px_run (fun q => px_vis (lk q)) (p + v) m = pr_nm lk p → Ok G (d + 2) mX10_behindName (fun v j q => q = r ∧ ∃ x, v = some (.int x) ∧ post x j) 2 [some (.ref y), some (.int (nI t)), some (.int (nI p)), some (.int (nI v))] [] i r := by
    intro m
    induction m with
    | zero =>
      intro v hv hr
      exact sX10_behindName_2 y _ _ _ ⟨fun _ => fin v hr, fun q => absurd (nI_le (a := 8) (b := v) (by omega) (by omega)) q⟩
    | succ m ih =>
      intro v hv hr
      refine sX10_behindName_2 y _ _ _ ⟨fun q => absurd q (nI_ge (b := 8) (by omega) (by decide)), fun _ => ⟨hm.1, ?_⟩⟩
      rw [nI_add]
      have hun : px_run (fun q => px_vis (lk q)) (p + v) (m + 1) = if px_vis (lk (p + v)) = true then px_run (fun q => px_vis (lk q)) (p + v + 1) m + 1 else 0 := rfl
      rw [hun] at hr
      refine hlk _ _ _ (by omega) (m_visible (fun u => ⟨fun z => absurd z (by decide), fun _ x6 e6 => ?_⟩) (fun u => ⟨fun _ => fin v ?_, fun z => absurd rfl z⟩))
      · rw [if_pos u] at hr
        rw [e6, nI_1]
        refine ih (v + 1) (by omega) ?_
        rw [← hr, show p + (v + 1) = p + v + 1 by omega]
        omega
      · rw [if_neg (by rw [u]; decide)] at hr
        exact hr
  exact sp_of 1 (by decide +kernel) (Nat.le_of_ble_eq_true rfl) rfl (sX10_behindName_0 y _ _ (loop 8 0 rfl (Nat.zero_add _)))
theorem m_lines {G : o_G} {d : Nat} {i : o_I} {r : o_R} {post : Int32 → o_I → Prop} {y n : Nat} {lk : Nat → Int32} (hm : ly_m G r y) (hlk : lk_R G r i y 0 lk) (hz : ∀ k, n ≤ k → lk k = 0) (hn : n ≤ 100) (hsz : i (y + 2) 0 = nI n) :
    ∀ f a m, 49 ≤ m + f → m ≤ 48 → a ≤ n → (∀ e, pr_e lk n f a m = some e → post (nI e) i) → (pr_e lk n f a m = none → post (-1) i) →
      Ok G (d + 2) mX10_errorOfReference (fun v j q => q = r ∧ ∃ x, v = some (.int x) ∧ post x j) 34 [some (.ref y), some (.int (nI a)), some (.int (nI m)), some (.int 1), none] [] i r := by
  obtain ⟨e1, Z1⟩ := hm.2 1 2 1 2 rfl (by decide)
  intro f
  induction f with
  | zero => intro a m hf hm48; omega
  | succ f ih =>
    intro a m hf hm48 ha hE hK
    have ee : pr_e lk n (f + 1) a m = if 1 ≤ pr_k lk a m ∧ lk (a + pr_k lk a m) = 10 then (if a + pr_k lk a m + 1 < n then pr_e lk n f (a + pr_k lk a m + 1) (m + pr_k lk a m) else none) else some (a + pr_k lk a m) := rfl
    have kle : pr_k lk a m ≤ 48 - m := px_run_le _ _ _
    have aln : a + pr_k lk a m ≤ n := by
      have := tk_le (lk := lk) (kd := 1) (w := false) (m1 := 48 - m) ha hz
      have e := ln_k_f lk a m
      unfold ln_k at e
      rw [e] at this
      exact this
    rw [ee] at hE hK
    -- behind the bases
    have fin : ∀ q, q = pr_k lk a m → Ok G (d + 2) mX10_errorOfReference (fun v j q => q = r ∧ ∃ x, v = some (.int x) ∧ post x j) 74 [some (.ref y), some (.int (nI (a + q))), some (.int (nI (m + q))), none, some (.int (nI q))] [] i r := by
      intro q hq
      rw [← hq] at hE hK aln
      have z : nI q = 0 ↔ q = 0 := nI_eq (b := 0) (by omega) (by decide)
      refine sX10_errorOfReference_74 y _ _ _ ⟨fun u => ?_, fun u => ⟨hm.1, hlk _ _ _ (by omega) ⟨fun hl x5 e5 => ?_, fun hl => ?_⟩⟩⟩
      · have := z.mp u
        rw [if_neg (fun w => by omega)] at hE
        exact o_ri (hE _ rfl)
      · have hq1 : 1 ≤ q := Nat.pos_of_ne_zero (fun w => u (z.mpr w))
        rw [if_pos ⟨hq1, hl⟩] at hE hK
        rw [nI_1] at e5
        subst e5
        rw [e1, Z1.len, show (0 : Int32).toNatClampNeg = 0 from rfl, hsz]
        refine ⟨Z1.Y, vp_in_nI (n := 0) (by decide) (by decide), fun x9 e9 => ?_⟩
        have zl : nI n ≤ nI (a + q + 1) ↔ n ≤ a + q + 1 := nI_leI (by omega) (by omega)
        by_cases hlt : a + q + 1 < n
        · rw [if_pos hlt] at hE hK
          rw [if_neg (fun w => by have := zl.mp w; omega)] at e9
          rw [e9]
          exact ih (a + q + 1) (m + q) (by omega) (by omega) (by omega) hE hK
        · rw [if_neg hlt] at hE hK
          rw [if_pos (zl.mpr (by omega))] at e9
          rw [e9]
          exact sX10_errorOfReference_34 y _ _ _ ⟨fun _ => o_ri (hK rfl), fun w => absurd rfl w⟩
      · rw [if_neg (fun w => hl w.2)] at hE
        exact o_ri (hE _ rfl)
    have loop : ∀ s q, q + s = 48 - m → q + px_run (fun z => px_bas (lk z)) (a + q) s = pr_k lk a m → Ok G (d + 2) mX10_errorOfReference (fun v j q => q = r ∧ ∃ x, v = some (.int x) ∧ post x j) 41 [some (.ref y), some (.int (nI (a + q))), some (.int (nI (m + q))), none, some (.int (nI q))] [] i r := by
      intro s
      induction s with
      | zero =>
        intro q hq hr
        exact sX10_errorOfReference_41 y _ _ _ ⟨fun _ => fin q hr, fun u => absurd (nI_le (a := 48) (b := m + q) (by omega) (by omega)) u⟩
      | succ s ihs =>
        intro q hq hr
        have hun : px_run (fun z => px_bas (lk z)) (a + q) (s + 1) = if px_bas (lk (a + q)) = true then px_run (fun z => px_bas (lk z)) (a + q + 1) s + 1 else 0 := rfl
        rw [hun] at hr
        refine sX10_errorOfReference_41 y _ _ _ ⟨fun u => absurd u (nI_ge (b := 48) (by omega) (by decide)), fun _ => ⟨hm.1, hlk _ _ _ (by omega) (m_codeOf (m_isBase (fun u1 u2 => ⟨fun z => absurd z (by decide), fun _ x7 e7 x8 e8 x9 e9 => ?_⟩) (fun u => ⟨fun _ => fin q ?_, fun z => absurd rfl z⟩)))⟩⟩
        · rw [if_pos (by unfold px_bas; simp [u1, u2])] at hr
          rw [e7, e8, e9, nI_1, nI_1, nI_1]
          refine ihs (q + 1) (by omega) ?_
          rw [← hr, show a + (q + 1) = a + q + 1 by omega]
          omega
        · rw [if_neg (fun w => u (by unfold px_bas at w; simpa using w))] at hr
          exact hr
    refine sX10_errorOfReference_34 y _ _ _ ⟨fun u => absurd u (by decide), fun _ => loop (48 - m) 0 (by omega) (by rw [Nat.zero_add]; rfl)⟩
theorem m_errorOfReference {G : o_G} {d : Nat} {i : o_I} {r : o_R} {post : Int32 → o_I → Prop} {y n : Nat} {lk : Nat → Int32} (hm : ly_m G r y) (hlk : lk_R G r i y 0 lk) (hz : ∀ k, n ≤ k → lk k = 0) (hn : n ≤ 100) (hsz : i (y + 2) 0 = nI n) (hE : ∀ e, pr_ref lk n = some e → post (nI e) i) (hK : pr_ref lk n = none → post (-1) i) : SpI G (d + 3) mX10_errorOfReference [.ref y] post i r := by
  have kle : pr_nm lk 1 ≤ 8 := px_run_le _ _ _
  have er : pr_ref lk n = if lk 0 = 62 then (if 1 ≤ pr_nm lk 1 ∧ lk (1 + pr_nm lk 1) = 10 then pr_e lk n 49 (1 + pr_nm lk 1 + 1) 0 else some (1 + pr_nm lk 1)) else some 0 := rfl
  rw [er] at hE hK
  refine sp_of 4 (by decide +kernel) (Nat.le_of_ble_eq_true rfl) rfl (sX10_errorOfReference_0 y ⟨hm.1, hlk _ _ 0 (by decide) ⟨fun h62 => ?_, fun h62 => ?_⟩⟩)
  · rw [if_pos h62] at hE hK
    refine m_behindName (t := 0) (p := 1) (n := n) hm hlk (by decide) (fun h1 h2 => ⟨fun _ => ?_, fun u => absurd (nI_pos' (by omega)) u⟩) (fun hb => ⟨fun u => ?_, fun _ => ?_⟩)
    · rw [if_pos ⟨h1, h2⟩] at hE hK
      have : ¬ n ≤ 1 + pr_nm lk 1 := fun q => by rw [hz _ q] at h2; exact absurd h2 (by decide)
      exact m_lines hm hlk hz hn hsz 49 (1 + pr_nm lk 1 + 1) 0 (by decide) (by decide) (by omega) hE hK
    · exfalso
      have h9 : ∀ k, k ≤ 8 → ¬ (0 : Int32) ≤ nI (1 + k) - 1000 := by decide
      exact h9 _ kle u
    · rw [if_neg hb] at hE
      have h9 : ∀ k, k ≤ 8 → nI (1 + k) - 1000 + 1000 = nI (1 + k) := by decide
      rw [h9 _ kle]
      exact o_ri (hE _ rfl)
  · rw [if_neg h62] at hE
    exact o_ri (hE 0 rfl)

/-! WHAT A CALL TAKES OUT OF THE TEXTS, and that it is sound -/
theorem px_vis_n {x : Int32} (h : px_vis x = true) : ∃ c : Nat, 33 ≤ c ∧ c ≤ 126 ∧ x = nI c := by
  unfold px_vis at h
  rw [Bool.and_eq_true] at h
  have h1 : ¬ x < 33 := by simpa using h.1
  have h2 : ¬ 126 < x := by simpa using h.2
  have h0 : ¬ x < 0 := fun e => h1 (Int32.lt_iff_toInt_lt.mpr (by
    have e1 := Int32.lt_iff_toInt_lt.mp e
    have e2 : (0 : Int32).toInt = 0 := rfl
    have e3 : (33 : Int32).toInt = 33 := rfl
    omega))
  obtain ⟨c, hc, rfl⟩ := nI_of h0
  have a1 : ¬ c < 33 := fun e => h1 ((nI_ltI (b := 33) hc (by decide)).mpr e)
  have a2 : ¬ 126 < c := fun e => h2 ((nI_ltI (a := 126) (by decide) hc).mpr e)
  exact ⟨c, by omega, by omega, rfl⟩
theorem rs_l_len (lk : Nat → Int32) (n : Nat) : ∀ f a, (rs_l lk n f a).length ≤ f := by
  intro f
  induction f with
  | zero => intro a; exact Nat.le_refl _
  | succ f ih =>
    intro a
    unfold rs_l
    split
    · exact Nat.zero_le _
    · have := ih (rr_z lk a)
      rw [List.length_cons]
      omega
theorem rs_l_ok (lk : Nat → Int32) (n : Nat) : ∀ f a, rs_e lk n f a = none → ∀ s ∈ rs_l lk n f a, rr_e lk s = none := by
  intro f
  induction f with
  | zero => intro a _ s hs; cases hs
  | succ f ih =>
    intro a h s hs
    unfold rs_l at hs
    unfold rs_e at h
    by_cases hn : n ≤ a
    · rw [if_pos hn] at hs
      cases hs
    · rw [if_neg hn] at hs h
      match e : rr_e lk a, h with
      | some z, h => cases h
      | none, h =>
        rcases List.mem_cons.mp hs with rfl | hs
        · exact e
        · exact ih _ h s hs
/-- where an error can lie -/
theorem pr_e_b (lk : Nat → Int32) (n : Nat) : ∀ f a m e, pr_e lk n f a m = some e → e ≤ a + n + 48 := by
  intro f
  induction f with
  | zero => intro a m e h; cases h
  | succ f ih =>
    intro a m e h
    have k48 : pr_k lk a m ≤ 48 := Nat.le_trans (px_run_le _ _ _) (by omega)
    unfold pr_e at h
    split at h
    · split at h
      · rename_i hlt
        have hlt : a + pr_k lk a m + 1 < n := hlt
        have : ∀ f a m e, a ≤ n → pr_e lk n f a m = some e → e ≤ n + 48 := by
          intro f
          induction f with
          | zero => intro a m e _ h; cases h
          | succ f ih =>
            intro a m e ha h
            have k48 : pr_k lk a m ≤ 48 := Nat.le_trans (px_run_le _ _ _) (by omega)
            unfold pr_e at h
            split at h
            · split at h
              · rename_i hlt
                exact ih _ _ _ (by omega) h
              · cases h
            · cases h
              omega
        have := this _ _ _ _ (by omega) h
        omega
      · cases h
    · cases h
      omega
theorem pr_ref_b {lk : Nat → Int32} {n e : Nat} (hn : n ≤ 100) (h : pr_ref lk n = some e) : e ≤ 600 := by
  have k8 : pr_nm lk 1 ≤ 8 := px_run_le _ _ _
  unfold pr_ref at h
  split at h
  · split at h
    · have := pr_e_b lk n 49 _ 0 e h
      omega
    · cases h
      omega
  · cases h
    omega
theorem rr_e_b {lk : Nat → Int32} {a e : Nat} (h : rr_e lk a = some e) : e ≤ a + 60 := by
  have k8 : pr_nm lk (a + 1) ≤ 8 := px_run_le _ _ _
  have k16 : rr_k lk a ≤ 16 := px_run_le _ _ _
  have kq : rr_q lk a ≤ rr_k lk a := px_run_le _ _ _
  have eb : rr_b lk a = a + 1 + pr_nm lk (a + 1) + 1 := rfl
  have ec : rr_c lk a = rr_b lk a + rr_k lk a + 1 + 1 + 1 := rfl
  unfold rr_e at h
  split at h
  · split at h
    · split at h
      · split at h
        · split at h
          · split at h
            · cases h
            · cases h
              omega
          · cases h
            omega
        · cases h
          omega
      · cases h
        omega
    · cases h
      omega
  · cases h
    omega
theorem rs_e_b {lk : Nat → Int32} {n : Nat} (hz : ∀ k, n ≤ k → lk k = 0) (hn : n ≤ 420) : ∀ f a e, a ≤ n → rs_e lk n f a = some e → e ≤ 600 := by
  intro f
  induction f with
  | zero =>
    intro a e ha h
    unfold rs_e at h
    split at h
    · cases h
    · cases h
      omega
  | succ f ih =>
    intro a e ha h
    unfold rs_e at h
    split at h
    · cases h
    · match e1 : rr_e lk a, h with
      | some z, h =>
        cases h
        have := rr_e_b e1
        omega
      | none, h => exact ih _ _ (rr_z_le hz e1) h
def cx_bl (lk0 : Nat → Int32) (n0 : Nat) : List Nat := pr_b lk0 n0 49 (1 + pr_nm lk0 1 + 1) []
def cx_len (lk0 : Nat → Int32) (n0 : Nat) : Nat := (cx_bl lk0 n0).length
def cx_f (lk0 : Nat → Int32) (n0 p : Nat) : Nat := (cx_bl lk0 n0).getD p 0
def cx_g (lk0 : Nat → Int32) (n0 p : Nat) : Int32 := nI (cx_f lk0 n0 p)
def cx_nm (lk0 : Nat → Int32) : List Nat := (List.range (pr_nm lk0 1)).map (fun q => (lk0 (1 + q)).toNatClampNeg)
def cx_R (lk1 : Nat → Int32) (n1 : Nat) : Nat := (rs_l lk1 n1 8 0).length
def cx_s (lk1 : Nat → Int32) (n1 q : Nat) : Nat := (rs_l lk1 n1 8 0).getD q 0
def cx_N (lk1 : Nat → Int32) (n1 q : Nat) : Nat := rr_k lk1 (cx_s lk1 n1 q)
def cx_F (lk1 : Nat → Int32) (n1 q z : Nat) : Int32 := px_code (lk1 (rr_b lk1 (cx_s lk1 n1 q) + z))
def cx_Q (lk1 : Nat → Int32) (n1 q z : Nat) : Int32 := lk1 (rr_c lk1 (cx_s lk1 n1 q) + z) - 33
theorem cx_ok {lk1 : Nat → Int32} {n1 : Nat} (h : rs_e lk1 n1 8 0 = none) : cl_ok (cx_R lk1 n1) (cx_N lk1 n1) (cx_F lk1 n1) (cx_Q lk1 n1) := by
  intro q hq
  have hs : rr_e lk1 (cx_s lk1 n1 q) = none := rs_l_ok lk1 n1 8 0 h _ (List.mem_of_getElem? (getD_some hq))
  obtain ⟨-, -, ⟨k4, -⟩, hqk, -⟩ := rr_facts hs
  refine ⟨k4, px_run_le _ _ _, fun z hz => ?_, fun z hz => ?_⟩
  · exact px_let_n (px_run_in (fun q => px_let (lk1 q)) 16 (rr_b lk1 (cx_s lk1 n1 q)) z hz)
  · have hz2 : z < rr_q lk1 (cx_s lk1 n1 q) := by rw [hqk]; exact hz
    obtain ⟨c, c1, c2, c3⟩ := px_vis_n (px_run_in (fun q => px_vis (lk1 q)) (rr_k lk1 (cx_s lk1 n1 q)) (rr_c lk1 (cx_s lk1 n1 q)) z hz2)
    refine ⟨c - 33, by omega, ?_⟩
    show lk1 (rr_c lk1 (cx_s lk1 n1 q) + z) - 33 = _
    rw [c3]
    exact pk_sub (a := c) (b := 33) c1
theorem cx_R8 (lk1 : Nat → Int32) (n1 : Nat) : cx_R lk1 n1 ≤ 8 := rs_l_len lk1 n1 8 0
theorem cx_48 (lk0 : Nat → Int32) (n0 : Nat) : cx_len lk0 n0 ≤ 48 := pr_b_len lk0 n0 49 _ [] (by decide)
theorem pr_b_grow (lk : Nat → Int32) (n : Nat) : ∀ f a bl, bl.length ≤ (pr_b lk n f a bl).length := by
  intro f
  induction f with
  | zero => intro a bl; exact Nat.le_refl _
  | succ f ih =>
    intro a bl
    unfold pr_b
    split
    · have := ih (a + pr_k lk a bl.length + 1) (bl ++ pp_cd lk a (pr_k lk a bl.length))
      rw [List.length_append] at this
      omega
    · rw [List.length_append]
      omega
theorem cx_0 {lk0 : Nat → Int32} {n0 : Nat} (h : pr_ref lk0 n0 = none) : 0 < cx_len lk0 n0 := by
  unfold pr_ref at h
  by_cases h62 : lk0 0 = 62
  · rw [if_pos h62] at h
    by_cases h1 : 1 ≤ pr_nm lk0 1 ∧ lk0 (1 + pr_nm lk0 1) = 10
    · rw [if_pos h1] at h
      unfold pr_e at h
      by_cases h2 : 1 ≤ pr_k lk0 (1 + pr_nm lk0 1 + 1) 0 ∧ lk0 (1 + pr_nm lk0 1 + 1 + pr_k lk0 (1 + pr_nm lk0 1 + 1) 0) = 10
      · unfold cx_len cx_bl pr_b
        have hk := h2.1
        split
        · have := pr_b_grow lk0 n0 48 (1 + pr_nm lk0 1 + 1 + pr_k lk0 (1 + pr_nm lk0 1 + 1) ([] : List Nat).length + 1) ([] ++ pp_cd lk0 (1 + pr_nm lk0 1 + 1) (pr_k lk0 (1 + pr_nm lk0 1 + 1) ([] : List Nat).length))
          rw [List.length_append, pp_cd_len] at this
          have e0 : ([] : List Nat).length = 0 := rfl
          rw [e0] at this ⊢
          omega
        · rw [List.length_append, pp_cd_len]
          have e0 : ([] : List Nat).length = 0 := rfl
          rw [e0]
          omega
      · rw [if_neg h2] at h
        cases h
    · rw [if_neg h1] at h
      cases h
  · rw [if_neg h62] at h
    cases h
theorem pp_cd_4 {lk : Nat → Int32} : ∀ m a, (∀ q, q < m → px_bas (lk (a + q)) = true) → ∀ c ∈ pp_cd lk a m, c < 4 := by
  intro m
  induction m with
  | zero => intro a _ c hc; cases hc
  | succ m ih =>
    intro a h c hc
    rcases List.mem_cons.mp hc with rfl | hc
    · obtain ⟨b, b1, b2⟩ := px_bas_n (h 0 (by omega))
      have b2 : px_code (lk a) = nI b := b2
      rw [b2, nI_clamp (by omega)]
      exact b1
    · exact ih (a + 1) (fun q hq => by have := h (q + 1) (by omega); rw [show a + (q + 1) = a + 1 + q by omega] at this; exact this) c hc
theorem pr_b_4 (lk : Nat → Int32) (n : Nat) : ∀ f a bl, (∀ c ∈ bl, c < 4) → ∀ c ∈ pr_b lk n f a bl, c < 4 := by
  intro f
  induction f with
  | zero => intro a bl h; exact h
  | succ f ih =>
    intro a bl h
    have h2 : ∀ c ∈ bl ++ pp_cd lk a (pr_k lk a bl.length), c < 4 := fun c hc => by
      rcases List.mem_append.mp hc with hc | hc
      · exact h c hc
      · exact pp_cd_4 _ a (fun q hq => px_run_in (fun q => px_bas (lk q)) _ a q hq) c hc
    unfold pr_b
    split
    · exact ih _ _ h2
    · exact h2
theorem cx_f4 {lk0 : Nat → Int32} {n0 p : Nat} (h : p < cx_len lk0 n0) : cx_f lk0 n0 p < 4 := pr_b_4 lk0 n0 49 _ [] (fun c hc => by cases hc) _ (getD_mem h)
theorem cx_nm_len (lk0 : Nat → Int32) : (cx_nm lk0).length = pr_nm lk0 1 := by
  unfold cx_nm
  rw [List.length_map, List.length_range]
theorem cx_nm8 (lk0 : Nat → Int32) : (cx_nm lk0).length ≤ 8 := by
  rw [cx_nm_len]
  exact px_run_le _ _ _
theorem cx_nm_at {lk0 : Nat → Int32} {k c : Nat} (h : (cx_nm lk0)[k]? = some c) : k < pr_nm lk0 1 ∧ c < 128 ∧ lk0 (1 + k) = nI c := by
  have hk : k < pr_nm lk0 1 := by
    have := (List.getElem?_eq_some_iff.mp h).1
    rw [cx_nm_len] at this
    exact this
  unfold cx_nm at h
  rw [List.getElem?_map, List.getElem?_range hk] at h
  have h : (lk0 (1 + k)).toNatClampNeg = c := by simpa using h
  obtain ⟨b, b1, b2, b3⟩ := px_vis_n (px_run_in (fun q => px_vis (lk0 q)) 8 1 k hk)
  have b3 : lk0 (1 + k) = nI b := b3
  rw [b3, nI_clamp (by omega)] at h
  subst h
  exact ⟨hk, by omega, b3⟩
/-- what a call comes to -/
def cx_P (k : Nat) (lk0 : Nat → Int32) (n0 : Nat) (lk1 : Nat → Int32) (n1 : Nat) : Nat → pl_Q := cl_P k (cx_len lk0 n0) (cx_g lk0 n0) (cx_N lk1 n1) (cx_F lk1 n1)
def cx_T (k : Nat) (lk0 : Nat → Int32) (n0 : Nat) (lk1 : Nat → Int32) (n1 : Nat) : Nat → List Nat := cl_T k (cx_len lk0 n0) (cx_g lk0 n0) (cx_N lk1 n1) (cx_F lk1 n1)
def cx_OB (k : Nat) (lk0 : Nat → Int32) (n0 : Nat) (lk1 : Nat → Int32) (n1 : Nat) : mo_O := ob_OB (cl_B k (cx_len lk0 n0) (cx_g lk0 n0) (cx_N lk1 n1) (cx_F lk1 n1) (cx_Q lk1 n1) (cx_R lk1 n1))
def cx_OK (k : Nat) (lk0 : Nat → Int32) (n0 : Nat) (lk1 : Nat → Int32) (n1 : Nat) : mo_O := ob_OK (cl_K k (cx_len lk0 n0) (cx_g lk0 n0) (cx_N lk1 n1) (cx_F lk1 n1) (cx_Q lk1 n1) (cx_R lk1 n1))
def cx_TX (k : Nat) (lk0 : Nat → Int32) (n0 : Nat) (lk1 : Nat → Int32) (n1 : Nat) : List Nat := tw_h ++ tw_txt (cx_nm lk0) (cx_len lk0 n0) (cx_f lk0 n0) (fun p => mo_at p (cx_OB k lk0 n0 lk1 n1)) (fun p => mo_at p (cx_OK k lk0 n0 lk1 n1)) (cx_len lk0 n0)
def cx_cnt (k : Nat) (lk0 : Nat → Int32) (n0 : Nat) (lk1 : Nat → Int32) (n1 : Nat) : Nat := tw_cnt (cx_len lk0 n0) (cx_f lk0 n0) (fun p => mo_at p (cx_OB k lk0 n0 lk1 n1)) (fun p => mo_at p (cx_OK k lk0 n0 lk1 n1)) (cx_len lk0 n0)
theorem cx_gt {k n0 n1 : Nat} {lk0 lk1 : Nat → Int32} (hk : k ≤ 3) (h1 : rs_e lk1 n1 8 0 = none) : gt_ok (cx_len lk0 n0) (cx_g lk0 n0) (cx_R lk1 n1) (cl_B k (cx_len lk0 n0) (cx_g lk0 n0) (cx_N lk1 n1) (cx_F lk1 n1) (cx_Q lk1 n1) (cx_R lk1 n1)) (cl_K k (cx_len lk0 n0) (cx_g lk0 n0) (cx_N lk1 n1) (cx_F lk1 n1) (cx_Q lk1 n1) (cx_R lk1 n1)) := cl_gt hk (cx_ok h1) _ (Nat.le_refl _)
theorem cx_sw {k n0 n1 : Nat} {lk0 lk1 : Nat → Int32} (hk : k ≤ 3) (h0 : pr_ref lk0 n0 = none) (h1 : rs_e lk1 n1 8 0 = none) : sw_ok (cx_len lk0 n0) (cx_OB k lk0 n0 lk1 n1) (cx_OK k lk0 n0 lk1 n1) := sw_of (cx_gt hk h1) (cx_R8 lk1 n1) (cx_48 lk0 n0) (cx_0 h0)
theorem cx_TXl {k n0 n1 : Nat} {lk0 lk1 : Nat → Int32} (hk : k ≤ 3) (h0 : pr_ref lk0 n0 = none) (h1 : rs_e lk1 n1 8 0 = none) : (cx_TX k lk0 n0 lk1 n1).length ≤ 2220 := by
  have gt := cx_gt (k := k) (lk0 := lk0) (n0 := n0) hk h1
  have x1 := xo_of (K := cl_K k (cx_len lk0 n0) (cx_g lk0 n0) (cx_N lk1 n1) (cx_F lk1 n1) (cx_Q lk1 n1) (cx_R lk1 n1)) (fun p hp => cx_f4 hp) gt.1.1
  have x2 := gt.2.2.2
  have r8 := cx_R8 lk1 n1
  refine tw_len (cx_nm8 lk0) (cx_sw hk h0 h1) ?_
  have e : (fun p => nI (cx_f lk0 n0 p)) = cx_g lk0 n0 := rfl
  rw [e] at x1
  exact Nat.le_trans x1 (by omega)
/-- what is shown, in the class at x with its sample sm, and in the reference at y -/
def sh_C (i : o_I) (x sm R len : Nat) (PP : Nat → pl_Q) (TT : Nat → List Nat) (OB OK : mo_O) (T : List Nat) : Prop := i sm 5 = nI R ∧ (∀ q, q < R → pc_C i (sm + 4 + 4 * q) (PP q) ∧ sc_S i (sm + 4 + 4 * q) (TT q)) ∧ i sm 3 = nI len ∧ pi_O i (x + 26) OB OK ∧ tw_S i (x + 321) T
def sh_M (i : o_I) (y R : Nat) (PP : Nat → pl_Q) (TT : Nat → List Nat) (OB OK : mo_O) (T : List Nat) : Prop := i y 6 = nI R ∧ (∀ q, q < R → pc_M i y q (PP q) ∧ ms_T i y q (TT q)) ∧ ms_D i y OB OK ∧ mt_T i y T
def sh_P (R len : Nat) (TT : Nat → List Nat) (OB OK : mo_O) (T : List Nat) : Prop := R ≤ 8 ∧ (∀ q, q < R → (TT q).length ≤ 19) ∧ sw_o len OB OK ∧ (OB.length ≤ 128 ∧ OK.length ≤ 128) ∧ T.length ≤ 2220
theorem sw_oo {len : Nat} {OB OK : mo_O} (h : sw_ok len OB OK) : sw_o len OB OK := ⟨h.1, fun o ho => ⟨(h.2.2.1.2 o ho).1, (h.2.2.1.2 o ho).2.1⟩, fun o ho => ⟨by have := (h.2.2.2.1.2 o ho).1; omega, (h.2.2.2.1.2 o ho).2.1⟩, fun p => ⟨sw_jd (lk := 0) h, sw_jd (lk := 1) h⟩⟩
theorem cx_shP {k n0 n1 : Nat} {lk0 lk1 : Nat → Int32} (hk : k ≤ 3) (h0 : pr_ref lk0 n0 = none) (h1 : rs_e lk1 n1 8 0 = none) : sh_P (cx_R lk1 n1) (cx_len lk0 n0) (cx_T k lk0 n0 lk1 n1) (cx_OB k lk0 n0 lk1 n1) (cx_OK k lk0 n0 lk1 n1) (cx_TX k lk0 n0 lk1 n1) :=
  ⟨cx_R8 lk1 n1, fun q hq => cl_T_ok hk (cx_ok h1) hq, sw_oo (cx_sw hk h0 h1), ⟨(cx_sw hk h0 h1).2.2.1.1, (cx_sw hk h0 h1).2.2.2.1.1⟩, cx_TXl hk h0 h1⟩

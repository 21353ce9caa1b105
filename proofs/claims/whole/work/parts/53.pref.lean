/-! PARSER: parseReference -/
/-- bases of a line from a on, m before it -/
def pr_k (lk : Nat → Int32) (a m : Nat) : Nat := px_run (fun q => px_bas (lk q)) a (48 - m)
/-- the lines: the place of the first error -/
def pr_e (lk : Nat → Int32) (n : Nat) : Nat → Nat → Nat → Option Nat
  | 0, _, _ => none
  | f + 1, a, m => if 1 ≤ pr_k lk a m ∧ lk (a + pr_k lk a m) = 10 then (if a + pr_k lk a m + 1 < n then pr_e lk n f (a + pr_k lk a m + 1) (m + pr_k lk a m) else none) else some (a + pr_k lk a m)
/-- and their bases -/
def pr_b (lk : Nat → Int32) (n : Nat) : Nat → Nat → List Nat → List Nat
  | 0, _, bl => bl
  | f + 1, a, bl => if a + pr_k lk a bl.length + 1 < n then pr_b lk n f (a + pr_k lk a bl.length + 1) (bl ++ pp_cd lk a (pr_k lk a bl.length)) else bl ++ pp_cd lk a (pr_k lk a bl.length)
def pr_nm (lk : Nat → Int32) (a : Nat) : Nat := px_run (fun q => px_vis (lk q)) a 8
def pr_ref (lk : Nat → Int32) (n : Nat) : Option Nat := if lk 0 = 62 then (if 1 ≤ pr_nm lk 1 ∧ lk (1 + pr_nm lk 1) = 10 then pr_e lk n 49 (1 + pr_nm lk 1 + 1) 0 else some (1 + pr_nm lk 1)) else some 0
theorem tk_le {lk : Nat → Int32} {kd a m1 n : Nat} {w : Bool} (ha : a ≤ n) (hlk : ∀ k, n ≤ k → lk k = 0) : a + tk_k lk kd w a m1 ≤ n := by
  cases hw : w with
  | true =>
    have : tk_k lk kd true a m1 = 0 := by unfold tk_k; rw [if_pos rfl]
    rw [this]
    exact ha
  | false =>
    rcases Nat.eq_zero_or_pos (tk_k lk kd false a m1) with q | q
    · rw [q]
      exact ha
    · have := (tk_in (lk := lk) (kd := kd) (a := a) (m1 := m1) (w := false) rfl hlk (tk_k lk kd false a m1 - 1) (by omega)).2
      omega
theorem ea_le {lk : Nat → Int32} {c : Int32} {a n : Nat} {w : Bool} (ha : a ≤ n) (hlk : ∀ k, n ≤ k → lk k = 0) (hc : ¬ (0 : Int32) = c) : pp_ea lk c a w ≤ n := by
  unfold pp_ea
  split
  · rename_i h
    have : ¬ n ≤ a := fun q => hc (by rw [← h.2, hlk a q])
    omega
  · exact ha
theorem ln_k_f (lk : Nat → Int32) (a m : Nat) : ln_k lk false a m = pr_k lk a m := by
  unfold ln_k tk_k pr_k
  rw [if_neg (by decide)]
  rfl
theorem ln_k_t (lk : Nat → Int32) (a m : Nat) : ln_k lk true a m = 0 := by
  unfold ln_k tk_k
  rw [if_pos rfl]
theorem ln_w_f (lk : Nat → Int32) (a m : Nat) : ln_w lk false a m = decide (pr_k lk a m < 1) := by
  have := ln_k_f lk a m
  unfold ln_k at this
  unfold ln_w tk_w
  rw [this]
  rfl
theorem ln_w_t (lk : Nat → Int32) (a m : Nat) : ln_w lk true a m = true := by
  unfold ln_w tk_w
  rfl
theorem pp_t (lk : Nat → Int32) (c : Int32) (a : Nat) : pp_ea lk c a true = a ∧ pp_ew lk c a true = true := by
  unfold pp_ea pp_ew
  rw [if_neg (fun q => by cases q.1), if_neg (fun q => by cases q.1)]
  exact ⟨rfl, rfl⟩
/-- what parseReference may change -/
def pr_F (p sm : Nat) (i j : o_I) : Prop := ∀ b k, ¬ (b = p ∧ (k = 1 ∨ k = 2)) → ¬ (b = sm ∧ (k = 1 ∨ k = 3)) → b ≠ sm + 1 → b ≠ sm + 2 → j b k = i b k
theorem c_lines {G : o_G} {d : Nat} {i : o_I} {r : o_R} {post : Int32 → o_I → Prop} {p t cap n sm : Nat} {lk : Nat → Int32} (hc : o_cst G) (hp : ly_pars G r p t cap) (hsm : ly_sm G r sm) (d1 : t + 1 < p) (d2 : p < sm) (ht : tp_S i t n lk) (hn : n ≤ cap) (hcap : cap < 2 ^ 19) :
    ∀ f v a w bl j, v + f = 49 → 49 ≤ bl.length + f → ps_S j p a w → sb_S j sm bl → a ≤ n → pb_F p sm i j →
      (∀ e j, (w = true ∧ e = a) ∨ (w = false ∧ a < n ∧ pr_e lk n f a bl.length = some e) → pb_F p sm i j → post (nI e) j) →
      (∀ j BL, w = false → (n ≤ a ∧ BL = bl) ∨ (a < n ∧ pr_e lk n f a bl.length = none ∧ BL = pr_b lk n f a bl) → sb_S j sm BL → pb_F p sm i j → post (-1) j) →
      Ok G (d + 8) mX3_parseReference (fun v j q => q = r ∧ ∃ x, v = some (.int x) ∧ post x j) 71 [some (.ref p), some (.ref sm), some (.int (nI v))] [] j r := by
  have hO := hp.1
  have er := hp.2.1
  have hT := hp.2.2.1
  intro f
  induction f with
  | zero =>
    intro v a w bl j hv hb S B ha F hE hK
    have := B.2.1
    omega
  | succ f ih =>
    intro v a w bl j hv hb S B ha F hE hK
    have h48 := B.2.1
    have T : tp_S j t n lk := ⟨by rw [F _ _ (by omega) (by omega) (by omega)]; exact ht.1, fun z hz => by rw [F _ _ (by omega) (by omega) (by omega)]; exact ht.2.1 z hz, ht.2.2⟩
    have hw := ps_w S
    have end_ : ∀ j2 a2 w2, ps_S j2 p a2 w2 → (w2 = true → post (nI a2) j2) → (w2 = false → post (-1) j2) → Ok G (d + 8) mX3_parseReference (fun v j q => q = r ∧ ∃ x, v = some (.int x) ∧ post x j) 109 [some (.ref p), none, none] [] j2 r := by
      intro j2 a2 w2 S2 h1 h0
      refine sX3_parseReference_109 p ⟨hO, fun x3 e3 => ?_⟩
      have hw2 := ps_w S2
      cases hv2 : w2 with
      | false =>
        rw [if_pos (hw2.mpr hv2)] at e3
        rw [e3]
        exact o_ri (h0 hv2)
      | true =>
        rw [if_neg (fun q => by have := hw2.mp q; rw [hv2] at this; cases this), S2.1] at e3
        rw [e3]
        exact o_ri (h1 hv2)
    refine sX3_parseReference_71 p sm _ ⟨fun q => ?_, fun _ => ⟨hO, fun q => ?_, fun q => ?_⟩⟩
    · have := (nI_ltI (a := 48) (b := v) (by decide) (by omega)).mp q
      -- 48 < v: no fuel left
      omega
    · have : w = true := by
        cases hv2 : w with
        | true => rfl
        | false => exact absurd (hw.mpr hv2) q
      exact end_ j a w S (fun _ => hE a j (Or.inl ⟨this, rfl⟩) F) (fun u => by rw [this] at u; cases u)
    · have hwf := hw.mp q
      rw [er, S.1, T.1, nI_leI (by omega) (by omega)]
      refine ⟨hT, fun hle => end_ j a w S (fun u => by rw [hwf] at u; cases u) (fun _ => hK j bl hwf (Or.inl ⟨hle, rfl⟩) B F), fun hle => ?_⟩
      have han : a < n := by omega
      subst hwf
      refine c_takeLine hc hp hsm d1 d2 T hn hcap S ha B (fun j2 S2 B2 F2 x7 e7 => ?_)
      have F2' : pb_F p sm i j2 := fun b z n1 n2 n3 => by rw [F2 b z n1 n2 n3]; exact F b z n1 n2 n3
      unfold ln_b at B2
      rw [ln_k_f, ln_w_f] at S2
      rw [ln_k_f, ln_w_f] at B2
      have hle2 : a + pr_k lk a bl.length ≤ n := by
        have := tk_le (lk := lk) (kd := 1) (w := false) (m1 := 48 - bl.length) ha ht.2.2
        have e := ln_k_f lk a bl.length
        unfold ln_k at e
        rw [e] at this
        exact this
      have ee : pr_e lk n (f + 1) a bl.length = if 1 ≤ pr_k lk a bl.length ∧ lk (a + pr_k lk a bl.length) = 10 then (if a + pr_k lk a bl.length + 1 < n then pr_e lk n f (a + pr_k lk a bl.length + 1) (bl.length + pr_k lk a bl.length) else none) else some (a + pr_k lk a bl.length) := rfl
      have eb : pr_b lk n (f + 1) a bl = if a + pr_k lk a bl.length + 1 < n then pr_b lk n f (a + pr_k lk a bl.length + 1) (bl ++ pp_cd lk a (pr_k lk a bl.length)) else bl ++ pp_cd lk a (pr_k lk a bl.length) := rfl
      rw [e7, nI_1]
      generalize pr_k lk a bl.length = k at *
      by_cases hk1 : 1 ≤ k
      · have dk : decide (k < 1) = false := by simp; omega
        rw [dk] at S2 B2
        rw [if_neg (by decide)] at B2
        have bll : (bl ++ pp_cd lk a k).length = bl.length + k := by rw [List.length_append, pp_cd_len]
        by_cases hl : lk (a + k) = 10
        · have pa : pp_ea lk 10 (a + k) false = a + k + 1 := by unfold pp_ea; rw [if_pos ⟨rfl, hl⟩]
          have pw : pp_ew lk 10 (a + k) false = false := by unfold pp_ew; rw [if_pos ⟨rfl, hl⟩]
          rw [pa, pw] at S2
          rw [if_pos ⟨hk1, hl⟩] at ee
          have hlt : a + k + 1 ≤ n := by
            have : ¬ n ≤ a + k := fun q => by rw [ht.2.2 _ q] at hl; exact absurd hl (by decide)
            omega
          refine ih (v + 1) (a + k + 1) false _ j2 (by omega) (by rw [bll]; omega) S2 B2 hlt F2' (fun e j3 hh F3 => hE e j3 (Or.inr ⟨rfl, han, ?_⟩) F3) (fun j3 BL _ hh B3 F3 => hK j3 BL rfl (Or.inr ⟨han, ?_, ?_⟩) B3 F3)
          · rcases hh with ⟨u, -⟩ | ⟨-, u1, u2⟩
            · cases u
            · rw [bll] at u2
              rw [ee, if_pos u1]
              exact u2
          · rcases hh with ⟨u, -⟩ | ⟨u1, u2, -⟩
            · rw [ee, if_neg (by omega)]
            · rw [bll] at u2
              rw [ee, if_pos u1]
              exact u2
          · rcases hh with ⟨u, u2⟩ | ⟨u1, -, u2⟩
            · rw [eb, if_neg (by omega)]
              exact u2
            · rw [eb, if_pos u1]
              exact u2
        · have pa : pp_ea lk 10 (a + k) false = a + k := by unfold pp_ea; rw [if_neg (fun q => hl q.2)]
          have pw : pp_ew lk 10 (a + k) false = true := by unfold pp_ew; rw [if_neg (fun q => hl q.2)]
          rw [pa, pw] at S2
          rw [if_neg (fun q => hl q.2)] at ee
          exact ih (v + 1) (a + k) true _ j2 (by omega) (by rw [bll]; omega) S2 B2 hle2 F2' (fun e j3 hh F3 => hE e j3 (Or.inr ⟨rfl, han, by
            rcases hh with ⟨-, u⟩ | ⟨u, -⟩
            · rw [ee, u]
            · cases u⟩) F3) (fun j3 BL u => by cases u)
      · have dk : decide (k < 1) = true := by simp; omega
        rw [dk] at S2 B2
        rw [if_pos rfl] at B2
        rw [(pp_t lk 10 (a + k)).1, (pp_t lk 10 (a + k)).2] at S2
        rw [if_neg (fun q => hk1 q.1)] at ee
        -- the line went wrong: leave
        refine sX3_parseReference_71 p sm _ ⟨fun _ => end_ j2 _ _ S2 (fun _ => hE _ j2 (Or.inr ⟨rfl, han, ee⟩) F2') (fun u => by cases u), fun _ => ⟨hO, fun _ => end_ j2 _ _ S2 (fun _ => hE _ j2 (Or.inr ⟨rfl, han, ee⟩) F2') (fun u => by cases u), fun q => ?_⟩⟩
        have := (ps_w S2).mp q
        cases this

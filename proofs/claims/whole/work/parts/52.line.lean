/-! PARSER: expect once more, takeLine -/
def pp_ea (lk : Nat → Int32) (c : Int32) (a : Nat) (w : Bool) : Nat := if w = false ∧ lk a = c then a + 1 else a
def pp_ew (lk : Nat → Int32) (c : Int32) (a : Nat) (w : Bool) : Bool := if w = false ∧ lk a = c then false else true
theorem c_ex {G : o_G} {d : Nat} {i : o_I} {r : o_R} {post : o_I → Prop} {p t cap n a : Nat} {w : Bool} {lk : Nat → Int32} {c : Int32} (hp : ly_pars G r p t cap) (ht : tp_S i t n lk) (hn : n ≤ cap) (hcap : cap < 2 ^ 20) (hs : ps_S i p a w) (ha : a < 2 ^ 20) (hc : ¬ (0 : Int32) = c) (h : ∀ j, ps_S j p (pp_ea lk c a w) (pp_ew lk c a w) → pf_F p i j → post j) : SpV G (d + 1) mX3_expect [.ref p, .int c] post i r := by
  refine c_expect hp ht hn (by omega) hs (by omega) hc (fun h1 h2 => h _ ⟨?_, ?_⟩ (fun b k nb => ?_)) (fun h1 => h _ ⟨?_, ?_⟩ (fun b k nb => ?_))
  · unfold pp_ea
    rw [if_pos ⟨h1, h2⟩, o_up_s]
  · have : pp_ew lk c a w = false := by unfold pp_ew; rw [if_pos ⟨h1, h2⟩]
    rw [this, o_up_k (by decide), hs.2, h1]
  · by_cases eb : b = p
    · rw [o_up_k (fun z => nb ⟨eb, Or.inl z⟩)]
    · rw [o_up_a eb]
  · unfold pp_ea
    rw [if_neg h1, o_up_k (by decide)]
    exact hs.1
  · have : pp_ew lk c a w = true := by unfold pp_ew; rw [if_neg h1]
    rw [this, o_up_s]
    rfl
  · by_cases eb : b = p
    · rw [o_up_k (fun z => nb ⟨eb, Or.inr z⟩)]
    · rw [o_up_a eb]
/-- the codes of m letters from a on -/
def pp_cd (lk : Nat → Int32) (a : Nat) : Nat → List Nat
  | 0 => []
  | m + 1 => (px_code (lk a)).toNatClampNeg :: pp_cd lk (a + 1) m
theorem pp_cd_len (lk : Nat → Int32) : ∀ m a, (pp_cd lk a m).length = m := by
  intro m
  induction m with
  | zero => intro a; rfl
  | succ m ih => intro a; show (pp_cd lk (a + 1) m).length + 1 = m + 1; rw [ih]
theorem pp_cd_snoc (lk : Nat → Int32) : ∀ m a, pp_cd lk a (m + 1) = pp_cd lk a m ++ [(px_code (lk (a + m))).toNatClampNeg] := by
  intro m
  induction m with
  | zero => intro a; rfl
  | succ m ih =>
    intro a
    show (px_code (lk a)).toNatClampNeg :: pp_cd lk (a + 1) (m + 1) = (px_code (lk a)).toNatClampNeg :: (pp_cd lk (a + 1) m ++ _)
    rw [ih (a + 1), show a + 1 + m = a + (m + 1) by omega]
theorem px_code_n {x : Int32} (h : ¬ px_code x < 0) : ∃ c, c ≤ 4 ∧ px_code x = nI c := by
  unfold px_code at *
  split
  · exact ⟨0, by decide, rfl⟩
  · split
    · exact ⟨1, by decide, rfl⟩
    · split
      · exact ⟨2, by decide, rfl⟩
      · split
        · exact ⟨3, by decide, rfl⟩
        · split
          · exact ⟨4, by decide, rfl⟩
          · rename_i h1 h2 h3 h4 h5
            rw [if_neg h1, if_neg h2, if_neg h3, if_neg h4, if_neg h5] at h
            exact absurd (by decide) h
theorem px_bas_n {x : Int32} (h : px_bas x = true) : ∃ c, c < 4 ∧ px_code x = nI c := by
  unfold px_bas at h
  simp only [Bool.and_eq_true, Bool.not_eq_true', decide_eq_false_iff_not] at h
  obtain ⟨c, hc, e⟩ := px_code_n h.1
  refine ⟨c, ?_, e⟩
  have := h.2
  rw [e] at this
  have z : (4 : Int32) ≤ nI c ↔ 4 ≤ c := nI_leI (a := 4) (by decide) (by omega)
  exact Nat.lt_of_not_le (fun q => this (z.mpr q))
/-- the bases so far -/
def sb_S (i : o_I) (sm : Nat) (bl : List Nat) : Prop := i sm 3 = nI bl.length ∧ bl.length ≤ 48 ∧ ∀ k c, bl[k]? = some c → c < 4 ∧ i (sm + 2) k = nI c
def pb_F (p sm : Nat) (i j : o_I) : Prop := ∀ b k, ¬ (b = p ∧ (k = 1 ∨ k = 2)) → ¬ (b = sm ∧ k = 3) → b ≠ sm + 2 → j b k = i b k
/-- a line of bases: how many, whether it went wrong -/
def ln_k (lk : Nat → Int32) (w : Bool) (a m : Nat) : Nat := tk_k lk 1 w a (48 - m)
def ln_w (lk : Nat → Int32) (w : Bool) (a m : Nat) : Bool := tk_w lk 1 w a 1 (48 - m)
def ln_b (lk : Nat → Int32) (w : Bool) (a : Nat) (bl : List Nat) : List Nat := if ln_w lk w a bl.length = true then bl else bl ++ pp_cd lk a (ln_k lk w a bl.length)
theorem tk_in {lk : Nat → Int32} {kd a m1 n : Nat} {w : Bool} (hw : w = false) (hlk : ∀ k, n ≤ k → lk k = 0) (q : Nat) (hq : q < tk_k lk kd w a m1) : px_of (nI kd) (lk (a + q)) = true ∧ a + q < n := by
  unfold tk_k at hq
  rw [if_neg (by rw [hw]; decide)] at hq
  have h1 := px_run_in _ _ _ q hq
  refine ⟨h1, Nat.lt_of_not_le (fun u => ?_)⟩
  have h1 : px_of (nI kd) (lk (a + q)) = true := h1
  rw [hlk _ u, px_of_0] at h1
  cases h1
theorem c_takeLine {G : o_G} {d : Nat} {i : o_I} {r : o_R} {post : o_I → Prop} {p t cap n a sm : Nat} {w : Bool} {lk : Nat → Int32} {bl : List Nat} (hc : o_cst G) (hp : ly_pars G r p t cap) (hsm : ly_sm G r sm) (d1 : t + 1 < p) (d2 : p < sm) (ht : tp_S i t n lk) (hn : n ≤ cap) (hcap : cap < 2 ^ 19) (hs : ps_S i p a w) (ha : a ≤ n) (hB : sb_S i sm bl)
    (h : ∀ j, ps_S j p (pp_ea lk 10 (a + ln_k lk w a bl.length) (ln_w lk w a bl.length)) (pp_ew lk 10 (a + ln_k lk w a bl.length) (ln_w lk w a bl.length)) → sb_S j sm (ln_b lk w a bl) → pb_F p sm i j → post j) : SpV G (d + 7) mX3_takeLine [.ref p, .ref sm] post i r := by
  have h48 := hB.2.1
  have e2 := hsm.2.2.2.1
  have Z2 := hsm.2.2.2.2.1
  refine sp_of 2 (by decide +kernel) (Nat.le_of_ble_eq_true rfl) rfl (sX3_takeLine_0 p sm ⟨hsm.1, hp.1, ?_⟩)
  rw [hB.1, show (48 : Int32) - nI bl.length = nI (48 - bl.length) from pk_sub (a := 48) h48]
  refine c_take (m0 := 1) (kd := 1) hc hp (by omega) (by omega) ht hn (by omega) hs (by omega) (by decide) (by decide) (by omega) (fun j0 S0 F0 => ?_)
  have S0 : ps_S j0 p (a + ln_k lk w a bl.length) (ln_w lk w a bl.length) := S0
  show Ok G (d + 7) mX3_takeLine _ 16 [some (.ref p), some (.ref sm), some (.int (nI (if ln_w lk w a bl.length = true then 0 else ln_k lk w a bl.length))), some (.int 0)] [] j0 r
  have kle : ln_k lk w a bl.length ≤ 48 - bl.length := by
    unfold ln_k tk_k
    split
    · exact Nat.zero_le _
    · exact px_run_le _ _ _
  have kin : w = false → ∀ q, q < ln_k lk w a bl.length → px_bas (lk (a + q)) = true ∧ a + q < n := fun hw q hq => tk_in (kd := 1) hw ht.2.2 q hq
  have aln : a + ln_k lk w a bl.length ≤ n := by
    cases hw : w with
    | true =>
      have : ln_k lk true a bl.length = 0 := by unfold ln_k tk_k; rw [if_pos rfl]
      rw [this]
      exact ha
    | false =>
      rcases Nat.eq_zero_or_pos (ln_k lk false a bl.length) with q | q
      · rw [q]
        exact ha
      · have := (kin hw (ln_k lk false a bl.length - 1) (by rw [hw]; omega)).2
        omega
  generalize hkv : ln_k lk w a bl.length = k at *
  generalize hwv : ln_w lk w a bl.length = wv at *
  have wf : wv = false → w = false := fun q => by
    rw [← hwv] at q
    unfold ln_w tk_w at q
    simp at q
    exact q.1
  have hlb : ln_b lk w a bl = if wv = true then bl else bl ++ pp_cd lk a k := by
    unfold ln_b
    rw [hwv]
    by_cases q : wv = true
    · rw [if_pos q, if_pos q]
    · rw [if_neg q, if_neg q, hkv]
  rw [hlb] at h
  have fromP : ∀ {i1 j1 : o_I}, pb_F p sm i i1 → pf_F p i1 j1 → pb_F p sm i j1 := fun {i1 j1} u v b z n1 n2 n3 => by rw [v b z n1]; exact u b z n1 n2 n3
  have loop : ∀ m q j, q + m = (if wv = true then 0 else k) → ps_S j p (a + k) wv → sb_S j sm (bl ++ pp_cd lk a q) → pb_F p sm i j → Ok G (d + 7) mX3_takeLine (fun v j q => q = r ∧ v = none ∧ post j) 16 [some (.ref p), some (.ref sm), some (.int (nI (if wv = true then 0 else k))), some (.int (nI q))] [] j r := by
    intro m
    induction m with
    | zero =>
      intro q j hq S B F
      have hq : q = if wv = true then 0 else k := by omega
      have T : tp_S j t n lk := ⟨by rw [F _ _ (by omega) (by omega) (by omega)]; exact ht.1, fun z hz => by rw [F _ _ (by omega) (by omega) (by omega)]; exact ht.2.1 z hz, ht.2.2⟩
      refine sX3_takeLine_16 p sm _ _ ⟨fun _ => ⟨hp.1, c_ex hp T hn (by omega) S (by omega) (by decide) (fun j2 S2 F2 => o_rv (h j2 S2 ?_ (fromP F F2)))⟩, fun u => absurd (by rw [hq]; exact nI_le (Nat.le_refl _) (by split <;> omega)) u⟩
      have B2 : sb_S j2 sm (bl ++ pp_cd lk a q) := ⟨by rw [F2 _ _ (by omega)]; exact B.1, B.2.1, fun z c hz => by rw [F2 _ _ (by omega)]; exact B.2.2 z c hz⟩
      by_cases u : wv = true
      · rw [if_pos u] at hq ⊢
        rw [hq] at B2
        have e : bl ++ pp_cd lk a 0 = bl := List.append_nil bl
        rw [e] at B2
        exact B2
      · rw [if_neg u] at hq ⊢
        rw [hq] at B2
        exact B2
    | succ m ih =>
      intro q j hq S B F
      have hwf : wv = false := by
        cases hv : wv with
        | false => rfl
        | true =>
          rw [hv, if_pos rfl] at hq
          omega
      have hnk : (if wv = true then 0 else k) = k := by rw [hwf]; rfl
      rw [hnk] at hq ih ⊢
      have T : tp_S j t n lk := ⟨by rw [F _ _ (by omega) (by omega) (by omega)]; exact ht.1, fun z hz => by rw [F _ _ (by omega) (by omega) (by omega)]; exact ht.2.1 z hz, ht.2.2⟩
      obtain ⟨b1, b2⟩ := kin (wf hwf) q (by omega)
      obtain ⟨c, hc4, ec⟩ := px_bas_n b1
      obtain ⟨q0, hq0, eq0⟩ := tx_al_n (ht.2.1 (a + q) b2).2
      have hbl : (bl ++ pp_cd lk a q).length = bl.length + q := by rw [List.length_append, pp_cd_len]
      refine sX3_takeLine_16 p sm _ _ ⟨fun u => absurd u (nI_ge (by omega) (by omega)), fun _ => ⟨hsm.1, hc, hp.1, c_taken hp T hn (by omega) S aln (by omega) (by omega) ?_⟩⟩
      rw [show a + k - k + q = a + q by omega, eq0]
      refine ⟨by decide, by decide, c_indexOf hc (by omega) ?_⟩
      rw [← eq0, ec, e2, Z2.len, B.1, hbl, nI_clamp (n := bl.length + q) (by omega)]
      refine ⟨Z2.Y, vp_in_nI (by omega) (by decide), fun i13 f13 i14 f14 x15 e15 => ?_⟩
      rw [e15, nI_1]
      refine ih (q + 1) i14 (by omega) ⟨?_, ?_⟩ ⟨?_, ?_, fun z x hz => ?_⟩ (fun b z n1 n2 n3 => ?_)
      · rw [f14, o_up_a (by omega), f13, o_up_a (by omega)]
        exact S.1
      · rw [f14, o_up_a (by omega), f13, o_up_a (by omega)]
        exact S.2
      · rw [f14, o_up_s, f13, o_up_a (by omega), B.1, hbl, nI_1, List.length_append, pp_cd_len]
        rfl
      · rw [List.length_append, pp_cd_len]
        omega
      · rw [pp_cd_snoc, ← List.append_assoc] at hz
        have ecn : (px_code (lk (a + q))).toNatClampNeg = c := by rw [ec]; exact nI_clamp (by omega)
        rw [ecn] at hz
        rw [f14, o_up_a (by omega), f13]
        by_cases ez : z = bl.length + q
        · rw [ez, List.getElem?_append_right (by omega), hbl, Nat.sub_self] at hz
          have : c = x := by simpa using hz
          subst this
          exact ⟨hc4, by rw [ez, o_up_s]⟩
        · have hzl : z < (bl ++ pp_cd lk a q).length := by
            have := (List.getElem?_eq_some_iff.mp hz).1
            rw [List.length_append] at this
            simp only [List.length_singleton] at this
            omega
          rw [List.getElem?_append_left hzl] at hz
          rw [o_up_k ez]
          exact B.2.2 z x hz
      · rw [f14]
        by_cases eb : b = sm
        · rw [o_up_k (fun u => n2 ⟨eb, u⟩), f13, o_up_a n3]
          exact F b z n1 n2 n3
        · rw [o_up_a eb, f13, o_up_a n3]
          exact F b z n1 n2 n3
  refine loop (if wv = true then 0 else k) 0 j0 (by omega) S0 ?_ (fun b z n1 n2 n3 => F0 b z n1)
  have e : bl ++ pp_cd lk a 0 = bl := List.append_nil bl
  rw [e]
  exact ⟨by rw [F0 _ _ (by omega)]; exact hB.1, hB.2.1, fun z c hz => by rw [F0 _ _ (by omega)]; exact hB.2.2 z c hz⟩

/-! PARSER: isOf, take, taken -/
theorem tx_al_n {x : Int32} (h : tx_al x) : ∃ q, q < 128 ∧ x = nI q := by
  rcases h with h | ⟨ha, hb⟩
  · exact ⟨10, by decide, h⟩
  · obtain ⟨q, hq, e⟩ := m_rng (n := 126) (N := 126) rfl (by decide) (fun z => ha (Int32.lt_trans z (by decide))) (Int32.not_lt.mp hb)
    exact ⟨q, by omega, e⟩
theorem c_isOf {G : o_G} {d : Nat} {i : o_I} {r : o_R} {post : Int32 → o_I → Prop} {kd n : Nat} (hc : o_cst G) (hk : kd ≤ 2) (hn : n < 256) (h : post (if px_of (nI kd) (nI n) = true then 1 else 0) i) : SpI G (d + 5) mX3_isOf [.int (nI kd), .int (nI n)] post i r := by
  have z0 : nI kd = 0 ↔ kd = 0 := nI_eq (b := 0) (by omega) (by decide)
  have z1 : nI kd = 1 ↔ kd = 1 := nI_eq (b := 1) (by omega) (by decide)
  have z2 : nI kd = 2 ↔ kd = 2 := nI_eq (b := 2) (by omega) (by decide)
  refine sp_of 1 (by decide +kernel) (Nat.le_of_ble_eq_true rfl) rfl (sX3_isOf_0 _ _ ⟨fun hk0 => ⟨hc, by decide, by decide, c_indexOf hc hn (fun x9 e9 => ?_)⟩, fun hk0 x14 e14 => ?_⟩)
  · have : x9 = if px_of (nI kd) (nI n) = true then 1 else 0 := by
      rw [e9]
      unfold px_of
      rw [if_neg hk0]
      by_cases c1 : px_code (nI n) < 0
      · rw [if_pos c1]
        by_cases k1 : nI kd = 1
        · rw [if_pos k1]
          unfold px_bas
          simp [c1]
        · rw [if_neg k1]
          unfold px_let
          simp [c1]
      · rw [if_neg c1]
        by_cases k1 : nI kd = 1
        · rw [if_neg (fun w => by have := z1.mp k1; have := z2.mp w; omega), if_pos k1]
          unfold px_bas
          by_cases c4 : 4 ≤ px_code (nI n)
          · simp [c4]
          · simp [c1, c4]
        · have k2 : nI kd = 2 := z2.mpr (by
            have : ¬ kd = 0 := fun w => hk0 (z0.mpr w)
            have : ¬ kd = 1 := fun w => k1 (z1.mpr w)
            omega)
          rw [if_pos k2, if_neg k1]
          unfold px_let
          simp [c1]
    rw [this]
    refine ⟨?_, o_ri h⟩
    split
    · exact Or.inr rfl
    · exact Or.inl rfl
  · have : x14 = if px_of (nI kd) (nI n) = true then 1 else 0 := by
      rw [e14]
      unfold px_of px_vis
      rw [if_pos hk0]
      by_cases a1 : nI n < 33
      · rw [if_pos a1]
        simp [a1]
      · rw [if_neg a1]
        by_cases a2 : 126 < nI n
        · rw [if_pos a2]
          simp [a2]
        · rw [if_neg a2]
          simp [a1, a2]
    rw [this]
    refine ⟨?_, o_ri h⟩
    split
    · exact Or.inr rfl
    · exact Or.inl rfl
def pf_F (p : Nat) (i j : o_I) : Prop := ∀ a k, ¬ (a = p ∧ (k = 1 ∨ k = 2)) → j a k = i a k
theorem pf_F.trans {p : Nat} {i j q : o_I} (h : pf_F p i j) (h2 : pf_F p j q) : pf_F p i q := fun a k n => by rw [h2 a k n, h a k n]
theorem pf_tp {i j : o_I} {p t n : Nat} {lk : Nat → Int32} (h : tp_S i t n lk) (hF : pf_F p i j) (h1 : t ≠ p) (h2 : t + 1 ≠ p) : tp_S j t n lk := ⟨by rw [hF _ _ (by omega)]; exact h.1, fun k hk => by rw [hF _ _ (by omega)]; exact h.2.1 k hk, h.2.2⟩
/-- how many chars take takes -/
def tk_k (lk : Nat → Int32) (kd : Nat) (w : Bool) (a m1 : Nat) : Nat := if w = true then 0 else px_run (fun q => px_of (nI kd) (lk q)) a m1
def tk_w (lk : Nat → Int32) (kd : Nat) (w : Bool) (a m0 m1 : Nat) : Bool := w || decide (tk_k lk kd w a m1 < m0)
theorem c_take {G : o_G} {d : Nat} {i : o_I} {r : o_R} {post : Int32 → o_I → Prop} {p t cap n a kd m0 m1 : Nat} {w : Bool} {lk : Nat → Int32} (hc : o_cst G) (hp : ly_pars G r p t cap) (hpt : t ≠ p) (hpt1 : t + 1 ≠ p) (ht : tp_S i t n lk) (hn : n ≤ cap) (hcap : cap < 2 ^ 20) (hs : ps_S i p a w) (ha : a < 2 ^ 20) (hk : kd ≤ 2) (hm0 : m0 < 2 ^ 20) (hm1 : m1 < 2 ^ 20)
    (h : ∀ j, ps_S j p (a + tk_k lk kd w a m1) (tk_w lk kd w a m0 m1) → pf_F p i j → post (nI (if tk_w lk kd w a m0 m1 = true then 0 else tk_k lk kd w a m1)) j) : SpI G (d + 6) mX3_take [.ref p, .int (nI m0), .int (nI m1), .int (nI kd)] post i r := by
  obtain ⟨hO, er, hT, et, hZ⟩ := hp
  -- behind the loop
  have fin : ∀ j v, v = tk_k lk kd w a m1 → ps_S j p (a + v) w → pf_F p i j → Ok G (d + 6) mX3_take (fun v j q => q = r ∧ ∃ x, v = some (.int x) ∧ post x j) 65 [some (.ref p), some (.int (nI m0)), none, none, some (.int (nI v))] [] j r := by
    intro j v hv S F
    have hvl : v ≤ m1 := by
      rw [hv]
      unfold tk_k
      split
      · exact Nat.zero_le _
      · exact px_run_le _ _ _
    have zle : nI m0 ≤ nI v ↔ m0 ≤ v := nI_leI (by omega) (by omega)
    have last : ∀ j2, ps_S j2 p (a + v) (tk_w lk kd w a m0 m1) → pf_F p i j2 → Ok G (d + 6) mX3_take (fun v j q => q = r ∧ ∃ x, v = some (.int x) ∧ post x j) 76 [some (.ref p), none, none, none, some (.int (nI v))] [] j2 r := by
      intro j2 S2 F2
      refine sX3_take_76 p _ ⟨hO, fun x3 e3 => ?_⟩
      have hfin := h j2 (by rw [← hv]; exact S2) F2
      have hw2 := ps_w S2
      have : x3 = nI (if tk_w lk kd w a m0 m1 = true then 0 else tk_k lk kd w a m1) := by
        rw [e3]
        by_cases q : tk_w lk kd w a m0 m1 = false
        · rw [if_pos (hw2.mpr q), if_neg (by rw [q]; decide), hv]
        · have q2 : tk_w lk kd w a m0 m1 = true := by simpa using q
          rw [if_neg (fun u => q (hw2.mp u)), if_pos q2]
          rfl
      rw [this]
      exact o_ri hfin
    refine sX3_take_65 p _ _ ⟨fun q => last j ?_ F, fun q => ⟨hO, fun i3 e3 => last i3 ?_ (F.trans ?_)⟩⟩
    · have : tk_w lk kd w a m0 m1 = w := by
        unfold tk_w
        rw [← hv]
        have := zle.mp q
        simp [show ¬ v < m0 by omega]
      rw [this]
      exact S
    · have : tk_w lk kd w a m0 m1 = true := by
        unfold tk_w
        rw [← hv]
        have : v < m0 := Nat.lt_of_not_le (fun u => q (zle.mpr u))
        simp [this]
      rw [this]
      exact ⟨by rw [e3, o_up_k (by decide)]; exact S.1, by rw [e3, o_up_s]; rfl⟩
    · intro b k nb
      rw [e3]
      by_cases eb : b = p
      · rw [o_up_k (fun z => nb ⟨eb, Or.inr z⟩)]
      · rw [o_up_a eb]
  have loop : ∀ m v j, v + m = m1 → w = false → v + px_run (fun q => px_of (nI kd) (lk q)) (a + v) m = tk_k lk kd w a m1 → ps_S j p (a + v) w → pf_F p i j → Ok G (d + 6) mX3_take (fun v j q => q = r ∧ ∃ x, v = some (.int x) ∧ post x j) 3 [some (.ref p), some (.int (nI m0)), some (.int (nI m1)), some (.int (nI kd)), some (.int (nI v))] [] j r := by
    intro m
    induction m with
    | zero =>
      intro v j hv hw hr S F
      have hw0 := (ps_w S).mpr hw
      exact sX3_take_3 p _ _ _ _ ⟨hO, fun q => absurd hw0 q, fun _ => ⟨fun _ => fin j v hr S F, fun q => absurd (nI_le (a := m1) (b := v) (by omega) (by omega)) q⟩⟩
    | succ m ih =>
      intro v j hv hw hr S F
      have hw0 := (ps_w S).mpr hw
      have T := pf_tp ht F hpt hpt1
      refine sX3_take_3 p _ _ _ _ ⟨hO, fun q => absurd hw0 q, fun _ => ⟨fun q => absurd q (nI_ge (by omega) (by omega)), fun _ => ?_⟩⟩
      rw [er, et, S.1, T.1, hZ.len, nI_leI (by omega) (by omega), nI_clamp (n := a + v) (by omega)]
      have hun : px_run (fun q => px_of (nI kd) (lk q)) (a + v) (m + 1) = if px_of (nI kd) (lk (a + v)) = true then px_run (fun q => px_of (nI kd) (lk q)) (a + v + 1) m + 1 else 0 := rfl
      rw [hun] at hr
      refine ⟨hT, fun hle => fin j v ?_ S F, fun hle => ⟨hZ.Y, vp_in_nI (by omega) (by omega), ?_⟩⟩
      · rw [T.2.2 _ hle, px_of_0, if_neg (by decide)] at hr
        exact hr
      · obtain ⟨c1, c2⟩ := T.2.1 (a + v) (by omega)
        rw [c1]
        obtain ⟨q0, hq0, eq0⟩ := tx_al_n c2
        rw [eq0] at hr ⊢
        refine c_isOf hc hk (by omega) ⟨fun z => fin j v ?_ S F, fun z i10 e10 x11 e11 => ?_⟩
        · by_cases u : px_of (nI kd) (nI q0) = true
          · rw [if_pos u] at z
            exact absurd z (by decide)
          · rw [if_neg u] at hr
            exact hr
        · have u : px_of (nI kd) (nI q0) = true := by
            by_cases u : px_of (nI kd) (nI q0) = true
            · exact u
            · rw [if_neg u] at z
              exact absurd rfl z
          rw [if_pos u] at hr
          rw [e11, nI_1]
          refine ih (v + 1) i10 (by omega) hw (by rw [← hr, show a + (v + 1) = a + v + 1 by omega]; omega) ⟨?_, ?_⟩ (F.trans (fun b k nb => ?_))
          · rw [e10, o_up_s, S.1, nI_1]
            rfl
          · rw [e10, o_up_k (by decide)]
            exact S.2
          · rw [e10]
            by_cases eb : b = p
            · rw [o_up_k (fun z => nb ⟨eb, Or.inl z⟩)]
            · rw [o_up_a eb]
  refine sp_of 1 (by decide +kernel) (Nat.le_of_ble_eq_true rfl) rfl (sX3_take_0 p _ _ _ ?_)
  cases hw : w with
  | false =>
    subst hw
    refine loop m1 0 i (by omega) rfl ?_ hs (fun _ _ _ => rfl)
    unfold tk_k
    rw [if_neg (by decide), Nat.zero_add]
    rfl
  | true =>
    subst hw
    refine sX3_take_3 p _ _ _ _ ⟨hO, fun _ => fin i 0 (by unfold tk_k; rw [if_pos rfl]) hs (fun _ _ _ => rfl), fun q => ?_⟩
    have := (ps_w hs).mp q
    cases this
theorem c_taken {G : o_G} {d : Nat} {i : o_I} {r : o_R} {post : Int32 → o_I → Prop} {p t cap n a m q : Nat} {w : Bool} {lk : Nat → Int32} (hp : ly_pars G r p t cap) (ht : tp_S i t n lk) (hn : n ≤ cap) (hcap : cap < 2 ^ 20) (hs : ps_S i p a w) (han : a ≤ n) (hma : m ≤ a) (hq : q < m) (h : post (lk (a - m + q)) i) : SpI G (d + 1) mX3_taken [.ref p, .int (nI m), .int (nI q)] post i r := by
  obtain ⟨hO, er, hT, et, hZ⟩ := hp
  refine sp_of 0 (by decide +kernel) (Nat.le_of_ble_eq_true rfl) rfl (sX3_taken_0 p _ _ ?_)
  obtain ⟨c1, c2⟩ := ht.2.1 (a - m + q) (by omega)
  obtain ⟨q0, hq0, eq0⟩ := tx_al_n c2
  rw [er, et, hs.1, pk_sub hma, nI_add, hZ.len, nI_clamp (n := a - m + q) (by omega), c1]
  exact ⟨hO, hT, hZ.Y, vp_in_nI (by omega) (by omega), by rw [eq0]; exact (pk_charN (q := q0) (by omega)).1, o_ri h⟩

/-! THE SCRIPT, from its back -/
/-- the step that ends at a letters, b positions: 1 a match, 2 a position left out, 3 a letter put in -/
def tb_st (c : Nat → Nat → Nat) (a b : Nat) : Nat := if a = 0 then 2 else if b = 0 then 3 else if dp c a b = dp c (a - 1) (b - 1) + c (a - 1) (b - 1) then 1 else if dp c a b = dp c a (b - 1) + 1 then 2 else 3
def tb_a (t a : Nat) : Nat := if t = 2 then a else a - 1
def tb_b (t b : Nat) : Nat := if t = 3 then b else b - 1
theorem tb_st3 (c : Nat → Nat → Nat) (a b : Nat) : tb_st c a b = 1 ∨ tb_st c a b = 2 ∨ tb_st c a b = 3 := by
  unfold tb_st
  split
  · exact Or.inr (Or.inl rfl)
  · split
    · exact Or.inr (Or.inr rfl)
    · split
      · exact Or.inl rfl
      · split
        · exact Or.inr (Or.inl rfl)
        · exact Or.inr (Or.inr rfl)
/-- what a step costs -/
theorem tb_cost (c : Nat → Nat → Nat) {a b : Nat} (h : 0 < a ∨ 0 < b) : (tb_st c a b = 1 ∧ 0 < a ∧ 0 < b ∧ dp c a b = dp c (a - 1) (b - 1) + c (a - 1) (b - 1)) ∨ (tb_st c a b = 2 ∧ 0 < b ∧ dp c a b = dp c a (b - 1) + 1) ∨ (tb_st c a b = 3 ∧ 0 < a ∧ dp c a b = dp c (a - 1) b + 1) := by
  unfold tb_st
  by_cases ha : a = 0
  · rw [if_pos ha, ha, dp_0, dp_0]
    exact Or.inr (Or.inl ⟨rfl, by omega, by omega⟩)
  · rw [if_neg ha]
    by_cases hb : b = 0
    · rw [if_pos hb, hb, dp_z, dp_z]
      exact Or.inr (Or.inr ⟨rfl, by omega, by omega⟩)
    · rw [if_neg hb]
      have e := dp_s c (a - 1) (b - 1)
      rw [show a - 1 + 1 = a by omega, show b - 1 + 1 = b by omega] at e
      by_cases h1 : dp c a b = dp c (a - 1) (b - 1) + c (a - 1) (b - 1)
      · rw [if_pos h1]
        exact Or.inl ⟨rfl, by omega, by omega, h1⟩
      · rw [if_neg h1]
        by_cases h2 : dp c a b = dp c a (b - 1) + 1
        · rw [if_pos h2]
          exact Or.inr (Or.inl ⟨rfl, by omega, h2⟩)
        · rw [if_neg h2]
          exact Or.inr (Or.inr ⟨rfl, by omega, by omega⟩)
def tb_f (c : Nat → Nat → Nat) : Nat → Nat → Nat → List Nat
  | 0, _, _ => []
  | f + 1, a, b => if a = 0 ∧ b = 0 then [] else tb_st c a b :: tb_f c f (tb_a (tb_st c a b) a) (tb_b (tb_st c a b) b)
/-- the steps from the back -/
def tb (c : Nat → Nat → Nat) (a b : Nat) : List Nat := tb_f c (a + b) a b
theorem tb_less (c : Nat → Nat → Nat) {a b : Nat} (h : 0 < a ∨ 0 < b) : tb_a (tb_st c a b) a + tb_b (tb_st c a b) b < a + b := by
  unfold tb_a tb_b
  rcases tb_cost c h with ⟨e, h1, h2, -⟩ | ⟨e, h1, -⟩ | ⟨e, h1, -⟩ <;> rw [e] <;> simp <;> omega
theorem tb_fuel (c : Nat → Nat → Nat) : ∀ f g a b, a + b ≤ f → a + b ≤ g → tb_f c f a b = tb_f c g a b := by
  intro f
  induction f with
  | zero =>
    intro g a b h _
    have ha : a = 0 := by omega
    have hb : b = 0 := by omega
    subst ha
    subst hb
    cases g with
    | zero => rfl
    | succ g => simp [tb_f]
  | succ f ih =>
    intro g a b h hg
    by_cases h0 : a = 0 ∧ b = 0
    · obtain ⟨rfl, rfl⟩ := h0
      cases g with
      | zero => simp [tb_f]
      | succ g => simp [tb_f]
    · have hl := tb_less c (a := a) (b := b) (by omega)
      cases g with
      | zero => omega
      | succ g =>
        show (if a = 0 ∧ b = 0 then _ else _) = (if a = 0 ∧ b = 0 then _ else _)
        rw [if_neg h0, if_neg h0, ih g _ _ (by omega) (by omega)]
theorem tb_nil (c : Nat → Nat → Nat) : tb c 0 0 = [] := rfl
theorem tb_cons (c : Nat → Nat → Nat) {a b : Nat} (h : 0 < a ∨ 0 < b) : tb c a b = tb_st c a b :: tb c (tb_a (tb_st c a b) a) (tb_b (tb_st c a b) b) := by
  have hl := tb_less c h
  have e : tb c a b = tb_f c ((a + b - 1) + 1) a b := tb_fuel c _ _ _ _ (Nat.le_refl _) (by omega)
  rw [e]
  show (if a = 0 ∧ b = 0 then _ else _) = _
  rw [if_neg (by omega)]
  congr 1
  exact tb_fuel c _ _ _ _ (by omega) (Nat.le_refl _)
theorem tb_len (c : Nat → Nat → Nat) : ∀ n a b, a + b = n → (tb c a b).length ≤ a + dp c a b := by
  intro n
  induction n using Nat.strongRecOn with
  | ind n ih =>
    intro a b hn
    by_cases h0 : a = 0 ∧ b = 0
    · obtain ⟨rfl, rfl⟩ := h0
      rw [tb_nil]
      exact Nat.zero_le _
    · have hab : 0 < a ∨ 0 < b := by omega
      have hl := tb_less c hab
      have := ih _ (by omega) (tb_a (tb_st c a b) a) (tb_b (tb_st c a b) b) rfl
      rw [tb_cons c hab, List.length_cons]
      unfold tb_a tb_b at this ⊢
      rcases tb_cost c hab with ⟨e, h1, h2, h3⟩ | ⟨e, h1, h3⟩ | ⟨e, h1, h3⟩ <;> rw [e] at this ⊢ <;> simp at this ⊢ <;> omega
theorem dp_eq_add_iff {K x y p q n : Nat} (h1 : dp_eq K x p) (h2 : dp_eq K y q) (hp : p ≤ K) : x = y + n ↔ p = q + n := by
  unfold dp_eq at *
  omega
/-- Aligner.stepAt, at a place whose distance is within K -/
theorem c_stepAt {G : o_G} {d : Nat} {i : o_I} {r : o_R} {post : Int32 → o_I → Prop} {al rd sm s a b K w : Nat} {c : Nat → Nat → Nat} (hal : ly_al G r al) (hr : ly_rd G r rd) (hs : ly_sm G r sm) (hst : i rd 4 = nI s) (ha : a ≤ 16) (hbw : b ≤ w) (hw : w ≤ 19) (hsw : s + w ≤ 48) (hc : c = dp_c (i (rd + 1)) (i (sm + 2)) s) (hK : K ≤ 3) (hrow : ∀ a', a' ≤ a → al_row i al c K w a') (hd : dp c a b ≤ K)
    (h : post (nI (tb_st c a b)) i) : SpI G (d + 2) mX1_stepAt [.ref al, .ref rd, .ref sm, .int (nI a), .int (nI b)] post i r := by
  have lo := dp_lo c a b
  unfold tb_st at h
  refine sp_of 0 (by decide +kernel) (Nat.le_of_ble_eq_true rfl) rfl (sX1_stepAt_0 al rd sm _ _ ⟨fun ha0 => ⟨fun hb0 => ?_, fun hb0 => ?_⟩, fun ha0 => ?_⟩)
  · have ha1 : 0 < a := Nat.pos_of_ne_zero (fun q => ha0 (by rw [q]; rfl))
    have hb1 : 0 < b := Nat.pos_of_ne_zero (fun q => hb0 (by rw [q]; rfl))
    obtain ⟨r1, Z1⟩ := hal.2.2.2 (a - 1) (by omega)
    obtain ⟨r2, Z2⟩ := hal.2.2.2 a (by omega)
    obtain ⟨x, x1, x2, x3⟩ := hrow a (Nat.le_refl a) b hbw (by omega) (by omega)
    obtain ⟨y, y1, y2, y3⟩ := hrow (a - 1) (by omega) (b - 1) (by omega) (by omega) (by omega)
    obtain ⟨z, z1, z2, z3⟩ := hrow a (Nat.le_refl a) (b - 1) (by omega) (by omega) (by omega)
    rw [if_neg (by omega), if_neg (by omega)] at h
    rw [nI_m1 ha1, nI_m1 hb1, hal.2.1, hal.2.2.1.len, nI_clamp (n := a) (by omega), nI_clamp (n := b) (by omega), nI_clamp (n := a - 1) (by omega), nI_clamp (n := b - 1) (by omega), r1, r2, Z1.len, Z2.len, hst, x2, y2]
    refine ⟨hal.1, hal.2.2.1.Y, vp_in_nI (by omega) (by decide), Z2.Y, vp_in_nI (by omega) (by decide), vp_in_nI (by omega) (by decide), Z1.Y, vp_in_nI (by omega) (by decide), hr.1, c_change hr hs ha1 ha hb1 (by omega) ?_⟩
    have hc1 : c (a - 1) (b - 1) ≤ 1 := by rw [hc]; exact dp_c1 _ _ _ _ _
    rw [← hc, nI_add, x2, z2, nI_1]
    have k1 : nI x = nI (y + c (a - 1) (b - 1)) ↔ dp c a b = dp c (a - 1) (b - 1) + c (a - 1) (b - 1) := (nI_eq (by omega) (by omega)).trans (dp_eq_add_iff x3 y3 hd)
    have k2 : nI x = nI (z + 1) ↔ dp c a b = dp c a (b - 1) + 1 := (nI_eq (by omega) (by omega)).trans (dp_eq_add_iff x3 z3 hd)
    refine ⟨fun hne => ⟨vp_in_nI (by omega) (by decide), fun x16 e16 => ?_⟩, fun he => ?_⟩
    · rw [if_neg (fun q => hne (k1.mpr q))] at h
      by_cases e : dp c a b = dp c a (b - 1) + 1
      · rw [if_pos (k2.mpr e)] at e16
        rw [if_pos e] at h
        rw [e16]
        exact o_ri h
      · rw [if_neg (fun q => e (k2.mp q))] at e16
        rw [if_neg e] at h
        rw [e16]
        exact o_ri h
    · rw [if_pos (k1.mp he)] at h
      exact o_ri h
  · have ha1 : ¬ a = 0 := fun q => ha0 (by rw [q]; rfl)
    have hb1 : b = 0 := (nI_eq (b := 0) (by omega) (by decide)).mp hb0
    rw [if_neg ha1, if_pos hb1] at h
    exact o_ri h
  · have ha1 : a = 0 := (nI_eq (b := 0) (by omega) (by decide)).mp ha0
    rw [if_pos ha1] at h
    exact o_ri h
/-- the list's places from m on -/
theorem drop_cons {T L : List Nat} {m t : Nat} (h : T.drop m = t :: L) : m < T.length ∧ T.getD m 0 = t ∧ T.drop (m + 1) = L := by
  have hm : m < T.length := by
    rcases Nat.lt_or_ge m T.length with h1 | h1
    · exact h1
    · rw [List.drop_eq_nil_of_le h1] at h
      cases h
  rw [List.drop_eq_getElem_cons hm] at h
  injection h with h1 h2
  exact ⟨hm, by rw [List.getD_eq_getElem?_getD, List.getElem?_eq_getElem hm]; exact h1, h2⟩
/-- the steps as the read holds them -/
def sc_S (i : o_I) (rd : Nat) (T : List Nat) : Prop := i rd 9 = nI T.length ∧ ∀ k, k < T.length → i (rd + 3) k = nI (T.getD k 0)
theorem c_writeScript {G : o_G} {d : Nat} {i : o_I} {r : o_R} {post : o_I → Prop} {al rd sm s e n K len : Nat} {c : Nat → Nat → Nat} (hal : ly_al G r al) (hr : ly_rd G r rd) (hs : ly_sm G r sm) (d1 : al + 19 ≤ sm) (d2 : sm + 4 ≤ rd) (hK : i al 1 = nI K) (hK3 : K ≤ 3) (hn : i rd 2 = nI n) (hn16 : n ≤ 16) (hl : i sm 3 = nI len) (hl48 : len ≤ 48) (hst : i rd 4 = nI s) (hen : i rd 5 = nI e) (hse : s < e) (hel : e ≤ len) (h9 : i rd 9 = 0) (hc : c = dp_c (i (rd + 1)) (i (sm + 2)) s) (hd : dp c n (e - s) = K)
    (h : ∀ j, sc_S j rd (tb c n (e - s)) → (∀ a k, (a < al ∨ al + 19 ≤ a) → a ≠ rd + 3 → ¬ (a = rd ∧ k = 9) → j a k = i a k) → post j) : SpV G (d + 5) mX1_writeScript [.ref al, .ref rd, .ref sm] post i r := by
  have lo := dp_lo c n (e - s)
  have hTl := tb_len c _ n (e - s) rfl
  generalize hT : tb c n (e - s) = T at h hTl
  generalize hw : min (len - s) (n + K) = w
  have loop : ∀ f a b m j, a + b = f → a ≤ n → b ≤ e - s → dp c a b ≤ K → T.drop m = tb c a b → m ≤ T.length → (∀ a' k, (a' < al + 2 ∨ al + 19 ≤ a') → a' ≠ rd + 3 → ¬ (a' = rd ∧ k = 9) → j a' k = i a' k) → (∀ a', a' ≤ n → al_row j al c K w a') → j rd 9 = nI m → (∀ k, k < m → j (rd + 3) k = nI (T.getD k 0)) →
      Ok G (d + 5) mX1_writeScript (fun v j q => q = r ∧ v = none ∧ post j) 27 [some (.ref al), some (.ref rd), some (.ref sm), some (.int (nI a)), some (.int (nI b)), none] [] j r := by
    intro f
    induction f using Nat.strongRecOn with
    | ind f ih =>
      intro a b m j hf ha hb hdk hdrop hm hj hrow h9 hst9
      by_cases h0 : a = 0 ∧ b = 0
      · obtain ⟨rfl, rfl⟩ := h0
        have hml : m = T.length := by
          have := congrArg List.length hdrop
          rw [List.length_drop, tb_nil] at this
          simp at this
          omega
        have fin : (r = r ∧ (none : Option Value) = none ∧ post j) := o_rv (h j ⟨by rw [← hml]; exact h9, fun k hk => hst9 k (by omega)⟩ (fun a' k a1 a2 a3 => hj a' k (by omega) a2 a3))
        exact sX1_writeScript_27 al rd sm _ _ ⟨hr.1, fun _ => fin, fun _ => ⟨fun z => absurd z (by decide), fun _ => ⟨fun _ => fin, fun z => absurd (by decide) z⟩⟩⟩
      · have hab : 0 < a ∨ 0 < b := by omega
        rw [tb_cons c hab] at hdrop
        obtain ⟨g1, g2, g3⟩ := drop_cons hdrop
        have next : Ok G (d + 5) mX1_writeScript (fun v j q => q = r ∧ v = none ∧ post j) 45 [some (.ref al), some (.ref rd), some (.ref sm), some (.int (nI a)), some (.int (nI b)), none] [] j r := by
          have hcj : c = dp_c (j (rd + 1)) (j (sm + 2)) s := by
            have q1 : j (rd + 1) = i (rd + 1) := funext (fun k => hj (rd + 1) k (by omega) (by omega) (by omega))
            have q2 : j (sm + 2) = i (sm + 2) := funext (fun k => hj (sm + 2) k (by omega) (by omega) (by omega))
            rw [hc, q1, q2]
          refine sX1_writeScript_45 al rd sm _ _ ⟨hal.1, c_stepAt (d := d + 2) (s := s) (K := K) (w := w) (c := c) hal hr hs (by rw [hj rd 4 (by omega) (by omega) (by omega)]; exact hst) (by omega) (by omega) (by omega) (by omega) hcj hK3 (fun a' h' => hrow a' (by omega)) hdk ⟨hr.1, ?_⟩⟩
          obtain ⟨-, -, -, -, -, e8, Z8⟩ := hr
          rw [e8, Z8.len, h9, nI_clamp (by omega)]
          refine ⟨Z8.Y, vp_in_nI (by omega) (by decide), fun i6 e6 i7 e7 x10 e10 x13 e13 => ?_⟩
          have t3 := tb_st3 c a b
          have e10 : x10 = nI (tb_a (tb_st c a b) a) := by
            rw [e10]
            unfold tb_a
            rcases tb_cost c hab with ⟨t, h1, h2, h3⟩ | ⟨t, h1, h3⟩ | ⟨t, h1, h3⟩ <;> rw [t]
            · rw [if_neg (by decide), if_neg (by decide), nI_m, nI_m1 (by omega)]
            · rw [if_pos (by decide), if_pos rfl]
            · rw [if_neg (by decide), if_neg (by decide), nI_m, nI_m1 (by omega)]
          have e13 : x13 = nI (tb_b (tb_st c a b) b) := by
            rw [e13]
            unfold tb_b
            rcases tb_cost c hab with ⟨t, h1, h2, h3⟩ | ⟨t, h1, h3⟩ | ⟨t, h1, h3⟩ <;> rw [t]
            · rw [if_neg (by decide), if_neg (by decide), nI_m, nI_m1 (by omega)]
            · rw [if_neg (by decide), if_neg (by decide), nI_m, nI_m1 (by omega)]
            · rw [if_pos (by decide), if_pos rfl]
          have hless := tb_less c hab
          have hle2 : tb_a (tb_st c a b) a ≤ a ∧ tb_b (tb_st c a b) b ≤ b ∧ dp c (tb_a (tb_st c a b) a) (tb_b (tb_st c a b) b) ≤ dp c a b := by
            unfold tb_a tb_b
            rcases tb_cost c hab with ⟨t, h1, h2, h3⟩ | ⟨t, h1, h3⟩ | ⟨t, h1, h3⟩ <;> rw [t] <;> simp <;> omega
          rw [e10, e13]
          refine ih _ (by omega) _ _ (m + 1) i7 rfl (by omega) (by omega) (by omega) g3 (by omega) (fun a' k a1 a2 a3 => ?_) (fun a' h' p p1 p2 p3 => ?_) ?_ (fun k hk => ?_)
          · by_cases er : a' = rd
            · rw [e7, o_up_k (fun z => a3 ⟨er, z⟩), e6, o_up_a a2]
              exact hj a' k a1 a2 a3
            · rw [e7, o_up_a er, e6, o_up_a a2]
              exact hj a' k a1 a2 a3
          · obtain ⟨x, x1, x2, x3⟩ := hrow a' h' p p1 p2 p3
            exact ⟨x, x1, by rw [e7, o_up_a (by omega), e6, o_up_a (by omega)]; exact x2, x3⟩
          · rw [e7, o_up_s, e6, o_up_a (by omega), h9, nI_1]
          · rw [e7, o_up_a (by omega), e6]
            by_cases ek : k = m
            · rw [ek, o_up_s, g2]
            · rw [o_up_k ek]
              exact hst9 k (by omega)
        refine sX1_writeScript_27 al rd sm _ _ ⟨hr.1, fun h19 => ?_, fun _ => ⟨fun _ => next, fun ha0 => ⟨fun hb0 => ?_, fun _ => next⟩⟩⟩
        · rw [h9] at h19
          exact absurd h19 (nI_ge (b := 19) (by omega) (by decide))
        · have hb' : b ≤ 0 := (nI_leI (b := 0) (by omega) (by decide)).mp hb0
          exact absurd (nI_lt (a := 0) (b := a) (by omega) (by omega)) ha0
  refine sp_of 3 (by decide +kernel) (Nat.le_of_ble_eq_true rfl) rfl (sX1_writeScript_0 al rd sm ⟨hr.1, hal.1, ?_⟩)
  rw [hst]
  refine c_fill (w := w) (c := c) hal hr hs d1 d2 hK hK3 hn hn16 hl hl48 (by omega) hw.symm hc (fun j a1 a2 x4 e4 x5 e5 => ?_) (fun j a1 a2 => ?_)
  · rw [a1 rd 2 (by omega), hn] at e4
    rw [a1 rd 4 (by omega), a1 rd 5 (by omega), hst, hen, pk_sub (by omega)] at e5
    rw [e4, e5]
    exact loop _ n (e - s) 0 j rfl (Nat.le_refl n) (Nat.le_refl _) (by omega) hT.symm (Nat.zero_le _) (fun a' k b1 b2 b3 => a1 a' k b1) a2 (by rw [a1 rd 9 (by omega)]; exact h9) (fun k hk => absurd hk (Nat.not_lt_zero k))
  · have := a2 (e - s) (by omega)
    omega

/-! THE REFERENCE: turn, settle -/
theorem m_turn {G : o_G} {d : Nat} {i : o_I} {r : o_R} {post : o_I → Prop} {y q b n : Nat} (hm : ly_m G r y) (hq : q < 8) (hb : b ≤ 1) (hn : i (y + 5) q = nI n) (hn16 : n ≤ 16) (hlet : ∀ k, k < n → ∃ v : Nat, v ≤ 4 ∧ i (y + 6) (16 * q + k) = nI v)
    (h : ∀ j : o_I, (∀ k, k < n → j (y + 15) k = sq_F n (fun k => i (y + 6) (16 * q + k)) b k ∧ j (y + 16) k = sq_FQ n (fun k => i (y + 7) (16 * q + k)) b k) → (∀ a m, a ≠ y + 15 → a ≠ y + 16 → j a m = i a m) → post j) : SpV G (d + 1) mX10_turn [.ref y, .int (nI q), .int (nI b)] post i r := by
  obtain ⟨eN, ZN⟩ := hm.2 7 5 1 8 rfl (by decide)
  obtain ⟨eL, ZL⟩ := hm.2 8 6 1 128 rfl (by decide)
  obtain ⟨eQ, ZQ⟩ := hm.2 9 7 1 128 rfl (by decide)
  obtain ⟨eR, ZR⟩ := hm.2 17 15 1 16 rfl (by decide)
  obtain ⟨eS, ZS⟩ := hm.2 18 16 1 16 rfl (by decide)
  have loop : ∀ m k j, k + m = n → (∀ k', k' < k → j (y + 15) k' = sq_F n (fun k => i (y + 6) (16 * q + k)) b k' ∧ j (y + 16) k' = sq_FQ n (fun k => i (y + 7) (16 * q + k)) b k') → (∀ a m, a ≠ y + 15 → a ≠ y + 16 → j a m = i a m) →
      Ok G (d + 1) mX10_turn (fun v j q => q = r ∧ v = none ∧ post j) 10 [some (.ref y), some (.int (nI q)), some (.int (nI b)), some (.int (nI n)), some (.int (nI k)), none] [] j r := by
    intro m
    induction m with
    | zero =>
      intro k j hk hI hj
      exact sX10_turn_10 y _ _ _ _ ⟨fun _ => o_rv (h j (fun k' hk' => hI k' (by omega)) hj), fun hn' => absurd (nI_le (by omega) (by omega)) hn'⟩
    | succ m ih =>
      intro k j hk hI hj
      refine sX10_turn_10 y _ _ _ _ ⟨fun hle => absurd hle (nI_ge (by omega) (by omega)), fun _ x3 e3 x4 e4 => ?_⟩
      have e3 : x3 = nI (if b = 0 then k else n - 1 - k) := by
        rw [e3]
        rcases (show b = 0 ∨ b = 1 by omega) with rfl | rfl
        · rw [if_neg (by decide), if_pos rfl]
        · rw [if_pos (by decide), if_neg (by decide), nI_m1 (by omega), pk_sub (by omega)]
      generalize hk0 : (if b = 0 then k else n - 1 - k) = k0 at e3
      have hk0n : k0 < n := by
        rw [← hk0]
        split <;> omega
      have e4 : x4 = nI (16 * q + k0) := by rw [e4, e3, show (16 : Int32) * nI q = nI (16 * q) from pk_mul 16 q, nI_add]
      rw [e4, eL, eQ, eR, eS, ZL.len, ZQ.len, ZR.len, ZS.len, nI_clamp (n := 16 * q + k0) (by omega), nI_clamp (n := k) (by omega)]
      refine ⟨hm.1, ⟨fun _ => ⟨ZL.Y, vp_in_nI (by omega) (by decide), trivial⟩, fun _ => ⟨ZL.Y, vp_in_nI (by omega) (by decide), trivial⟩⟩, fun x12 e12 => ⟨ZR.Y, vp_in_nI (by omega) (by decide), fun i15 e15 => ⟨ZQ.Y, vp_in_nI (by omega) (by decide), ZS.Y, vp_in_nI (by omega) (by decide), fun i20 e20 x21 e21 => ?_⟩⟩⟩
      rw [hj (y + 6) _ (by omega) (by omega)] at e12
      have v12 : x12 = sq_F n (fun k => i (y + 6) (16 * q + k)) b k := by
        rw [e12]
        rcases (show b = 0 ∨ b = 1 by omega) with rfl | rfl
        · rw [if_neg (by decide), ← hk0, if_pos rfl]
          rfl
        · rw [if_pos (by decide)]
          show _ = sq_tl n (fun k => i (y + 6) (16 * q + k)) k
          have hk0' : n - 1 - k = k0 := by rw [← hk0, if_neg (by decide)]
          obtain ⟨v, hv, ev⟩ := hlet k0 hk0n
          rw [sq_tl, if_pos (show k < n by omega), hk0', ev]
          rcases (show v = 0 ∨ v = 1 ∨ v = 2 ∨ v = 3 ∨ v = 4 by omega) with rfl | rfl | rfl | rfl | rfl <;> decide
      have vq : i15 (y + 7) (16 * q + k0) = sq_FQ n (fun k => i (y + 7) (16 * q + k)) b k := by
        rw [e15, o_up_a (by omega), hj (y + 7) _ (by omega) (by omega), ← hk0]
        rcases (show b = 0 ∨ b = 1 by omega) with rfl | rfl
        · rw [if_pos rfl]
          rfl
        · rw [if_neg (by decide)]
          show _ = sq_tq n (fun k => i (y + 7) (16 * q + k)) k
          unfold sq_tq
          rw [if_pos (by omega)]
      rw [e21, nI_1]
      refine ih (k + 1) i20 (by omega) (fun k' hk' => ?_) (fun a m a1 a2 => ?_)
      · by_cases e : k' = k
        · subst e
          exact ⟨by rw [e20, o_up_a (by omega), e15, o_up_s]; exact v12, by rw [e20, o_up_s]; exact vq⟩
        · have := hI k' (by omega)
          exact ⟨by rw [e20, o_up_a (by omega), e15, o_up_k e]; exact this.1, by rw [e20, o_up_k e, e15, o_up_a (by omega)]; exact this.2⟩
      · rw [e20, o_up_a a2, e15, o_up_a a1]
        exact hj a m a1 a2
  refine sp_of 3 (by decide +kernel) (Nat.le_of_ble_eq_true rfl) rfl (sX10_turn_0 y _ _ ⟨hm.1, ?_⟩)
  rw [eN, ZN.len, nI_clamp (by omega)]
  refine ⟨ZN.Y, vp_in_nI (by omega) (by decide), fun x4 e4 => ?_⟩
  rw [e4, hn]
  exact loop n 0 i (by omega) (fun k' hk' => absurd hk' (Nat.not_lt_zero k')) (fun _ _ _ _ => rfl)
/-- distances depend on the letters and bases before the place alone -/
theorem dp_cong {c c' : Nat → Nat → Nat} : ∀ n m, (∀ a b, a < n → b < m → c a b = c' a b) → dp c n m = dp c' n m := by
  intro n
  induction n with
  | zero => intro m _; rfl
  | succ n ih =>
    intro m
    induction m with
    | zero => intro _; rw [dp_z, dp_z]
    | succ m jh =>
      intro h
      rw [dp_s, dp_s, ih m (fun a b h1 h2 => h a b (by omega) (by omega)), ih (m + 1) (fun a b h1 h2 => h a b (by omega) h2), jh (fun a b h1 h2 => h a b h1 (by omega)), h n m (by omega) (by omega)]
theorem dp_c_cong {f f' g g' : Nat → Int32} {s n m len : Nat} (hf : ∀ k, k < n → f k = f' k) (hg : ∀ k, k < len → g k = g' k) (hm : s + m ≤ len) : dp (dp_c f g s) n m = dp (dp_c f' g' s) n m := by
  refine dp_cong n m (fun a b h1 h2 => ?_)
  unfold dp_c
  rw [hf a h1, hg (s + b) (by omega)]
theorem pl_row_cong {k s b : Nat} {D D' : Nat → Nat} {q : pl_Q} : ∀ m, (∀ j, j ≤ m → D j = D' j) → pl_row k s b D m q = pl_row k s b D' m q := by
  intro m
  induction m with
  | zero => intro _; rfl
  | succ m ih =>
    intro h
    show pl_step k s _ b (D (m + 1)) _ = pl_step k s _ b (D' (m + 1)) _
    rw [h (m + 1) (Nat.le_refl _), ih (fun j hj => h j (by omega))]
theorem pl_all_cong {k b n len : Nat} {f f' g g' : Nat → Int32} (hf : ∀ k, k < n → f k = f' k) (hg : ∀ k, k < len → g k = g' k) : ∀ m s q, s + m = len → pl_all k b n len f g m s q = pl_all k b n len f' g' m s q := by
  intro m
  induction m with
  | zero => intro s q _; rfl
  | succ m ih =>
    intro s q hs
    show pl_all k b n len f g m (s + 1) _ = pl_all k b n len f' g' m (s + 1) _
    rw [ih (s + 1) _ (by omega), pl_row_cong (min (len - s) 19) (fun j hj => dp_c_cong hf hg (by omega))]
/-- what the reference holds of its search for read q -/
def mq_S (j : o_I) (y q k : Nat) (v3 v4 v5 : Int32) : pl_Q → Prop
  | none => v3 = nI (k + 1)
  | some (l, f, t, b, fe, ls) => v3 = nI l ∧ v4 = nI ls ∧ v5 = nI fe ∧ j (y + 9) q = nI f ∧ j (y + 10) q = nI t ∧ j (y + 12) q = nI b ∧ l ≤ k ∧ f ≤ 100 ∧ t ≤ 100 ∧ b ≤ 1 ∧ fe ≤ 100 ∧ ls ≤ 100
theorem mq_same {i j : o_I} {y q k : Nat} {v3 v4 v5 : Int32} {Q : pl_Q} (h : mq_S i y q k v3 v4 v5 Q) (e : ∀ a, a = y + 9 ∨ a = y + 10 ∨ a = y + 12 → j a q = i a q) : mq_S j y q k v3 v4 v5 Q := by
  match Q, h with
  | none, h => exact h
  | some (l, f, t, b, fe, ls), h =>
    obtain ⟨h1, h2, h3, h4, h5, h6, h7⟩ := h
    exact ⟨h1, h2, h3, by rw [e _ (Or.inl rfl)]; exact h4, by rw [e _ (Or.inr (Or.inl rfl))]; exact h5, by rw [e _ (Or.inr (Or.inr rfl))]; exact h6, h7⟩

/-- the ends jx, jx + 1 .. one after another -/
def pl_fw (k s b : Nat) (D : Nat → Nat) : Nat → Nat → pl_Q → pl_Q
  | 0, _, Q => Q
  | m + 1, jx, Q => pl_fw k s b D m (jx + 1) (pl_step k s (s + jx) b (D jx) Q)
theorem pl_fw_row (k s b : Nat) (D : Nat → Nat) (Q : pl_Q) : ∀ m jx, pl_fw k s b D m (jx + 1) (pl_row k s b D jx Q) = pl_row k s b D (jx + m) Q := by
  intro m
  induction m with
  | zero => intro jx; rfl
  | succ m ih =>
    intro jx
    rw [show jx + (m + 1) = (jx + 1) + m by omega]
    exact ih (jx + 1)
theorem mq_lim {j : o_I} {y q k X : Nat} {v3 v4 v5 : Int32} {Q : pl_Q} (h : mq_S j y q k v3 v4 v5 Q) (hk : k ≤ 3) (hX : X ≤ 100) : (v3 < nI X → pl_lim k Q < X) ∧ pl_lim k Q ≤ k := by
  match Q, h with
  | none, h =>
    refine ⟨fun hlt => ?_, Nat.le_refl _⟩
    have h : v3 = nI (k + 1) := h
    rw [h, nI_ltI (by omega) (by omega)] at hlt
    show k < X
    omega
  | some (l, f, t, b, fe, ls), h =>
    obtain ⟨h1, -, -, -, -, -, h7, -⟩ := h
    refine ⟨fun hlt => ?_, h7⟩
    rw [h1, nI_ltI (by omega) (by omega)] at hlt
    exact hlt
theorem m_settle1 {G : o_G} {d : Nat} {r : o_R} {P : o_P} {y q k n b s len far : Nat} {D : Nat → Nat} (hm : ly_m G r y) (hq : q < 8) (hk : k ≤ 3) (hn16 : n ≤ 16) (hb : b ≤ 1) (hsl : s < len) (hl48 : len ≤ 48) (hfar : far = min (len - s) 19) (hD : ∀ j, j ≤ far → D j ≤ 100)
    {i : o_I} (hn : i (y + 5) q = nI n) (hd : ∀ j, j ≤ far → i (y + 17) (20 * n + j) = nI (D j)) :
    ∀ m jx hp v3 v4 v5 Q, jx + m = far + 1 → 1 ≤ jx → mq_S hp y q k v3 v4 v5 Q → (∀ a z, ¬ ((a = y + 9 ∨ a = y + 10 ∨ a = y + 12) ∧ z = q) → hp a z = i a z) →
      (∀ hp' v3 v4 v5, mq_S hp' y q k v3 v4 v5 (pl_fw k s b D m jx Q) → (∀ a z, ¬ ((a = y + 9 ∨ a = y + 10 ∨ a = y + 12) ∧ z = q) → hp' a z = i a z) →
        Ok G (d + 2) mX10_settle P 30 [some (.ref y), some (.int (nI q)), some (.int (nI k)), some (.int v3), some (.int v4), some (.int v5), some (.int (nI b)), some (.int (nI (s + 1))), none, none, none, none, none] [] hp' r) →
      Ok G (d + 2) mX10_settle P 56 [some (.ref y), some (.int (nI q)), some (.int (nI k)), some (.int v3), some (.int v4), some (.int v5), some (.int (nI b)), some (.int (nI s)), some (.int (nI far)), some (.int (nI jx)), none, none, none] [] hp r := by
  obtain ⟨eN, ZN⟩ := hm.2 7 5 1 8 rfl (by decide)
  obtain ⟨eD, ZD⟩ := hm.2 19 17 1 340 rfl (by decide)
  obtain ⟨eF, ZF⟩ := hm.2 11 9 1 8 rfl (by decide)
  obtain ⟨eT, ZT⟩ := hm.2 12 10 1 8 rfl (by decide)
  obtain ⟨eB, ZB⟩ := hm.2 14 12 1 8 rfl (by decide)
  have hcq : (nI q).toNatClampNeg = q := nI_clamp (by omega)
  have inq : vp_in (nI q) 8 := vp_in_nI (by omega) (by decide)
  intro m
  induction m with
  | zero =>
    intro jx hp v3 v4 v5 Q hj hj1 hQ hF h
    refine sX10_settle_56 y _ _ _ _ _ _ _ _ _ ⟨fun _ x2 e2 => ?_, fun hn' => absurd (nI_lt (by omega) (by omega)) hn'⟩
    rw [e2, nI_1]
    exact h hp v3 v4 v5 hQ hF
  | succ m ih =>
    intro jx hp v3 v4 v5 Q hj hj1 hQ hF h
    refine sX10_settle_56 y _ _ _ _ _ _ _ _ _ ⟨fun hlt => absurd hlt (nI_nlt (by omega) (by omega)), fun _ => ?_⟩
    have next : ∀ hp2 w3 w4 w5, mq_S hp2 y q k w3 w4 w5 (pl_step k s (s + jx) b (D jx) Q) → (∀ a z, ¬ ((a = y + 9 ∨ a = y + 10 ∨ a = y + 12) ∧ z = q) → hp2 a z = i a z) → ∀ x : Int32, x = nI jx + 1 → Ok G (d + 2) mX10_settle P 56 [some (.ref y), some (.int (nI q)), some (.int (nI k)), some (.int w3), some (.int w4), some (.int w5), some (.int (nI b)), some (.int (nI s)), some (.int (nI far)), some (.int x), none, none, none] [] hp2 r := by
      intro hp2 w3 w4 w5 hQ2 hF2 x hx
      rw [hx, nI_1]
      exact ih (jx + 1) hp2 w3 w4 w5 _ (by omega) (by omega) hQ2 hF2 (fun hp' u3 u4 u5 e2 e3 => h hp' u3 u4 u5 e2 e3)
    have hX := hD jx (by omega)
    have vd : hp (y + 17) (20 * n + jx) = nI (D jx) := by rw [hF _ _ (by omega)]; exact hd jx (by omega)
    have vn : hp (y + 5) q = nI n := by rw [hF _ _ (by omega)]; exact hn
    generalize hXe : D jx = X at hX vd next
    obtain ⟨lim1, lim2⟩ := mq_lim hQ hk hX
    rw [hcq, eN, eD, eF, eT, eB, ZN.len, ZD.len, ZF.len, ZT.len, ZB.len, vn, show (20 : Int32) * nI n = nI (20 * n) from pk_mul 20 n, nI_add, nI_add, nI_clamp (n := 20 * n + jx) (by omega), vd]
    refine ⟨hm.1, ZN.Y, inq, ZD.Y, vp_in_nI (by omega) (by decide), fun x8 e8 x10 e10 => ⟨⟨fun _ => trivial, fun _ => ⟨fun _ => trivial, fun _ => ⟨ZF.Y, inq, ⟨fun _ => trivial, fun _ => ⟨fun _ => trivial, fun _ => ⟨ZT.Y, inq, trivial⟩⟩⟩⟩⟩⟩, fun x20 e20 => ?_⟩⟩
    subst e8
    refine ⟨fun hlt => next hp v3 v4 v5 (by rw [pl_step_id (lim1 hlt)]; exact hQ) hF, fun hnlt => ⟨fun hkx => next hp v3 v4 v5 (by rw [pl_step_id (by rw [nI_ltI (by omega) (by omega)] at hkx; omega)]; exact hQ) hF, fun hnk x27 e27 x30 e30 => ⟨⟨fun _ => ⟨ZF.Y, inq, trivial⟩, fun _ => trivial⟩, fun x34 e34 => ⟨ZF.Y, inq, fun i37 e37 => ⟨⟨fun _ => ⟨ZT.Y, inq, trivial⟩, fun _ => trivial⟩, fun x41 e41 => ⟨ZT.Y, inq, fun i44 e44 => ⟨⟨fun _ => ⟨ZB.Y, inq, trivial⟩, fun _ => trivial⟩, fun x48 e48 => ⟨ZB.Y, inq, fun i51 e51 => next i51 (nI X) x27 x30 ?_ (fun a z haz => ?_)⟩⟩⟩⟩⟩⟩⟩⟩
    · rw [nI_ltI (by omega) (by omega)] at hnk
      have w9 : i51 (y + 9) q = x34 := by rw [e51, o_up_a (by omega), e44, o_up_a (by omega), e37, o_up_s]
      have w10 : i51 (y + 10) q = x41 := by rw [e51, o_up_a (by omega), e44, o_up_s]
      have w12 : i51 (y + 12) q = x48 := by rw [e51, o_up_s]
      have g10 : i37 (y + 10) q = hp (y + 10) q := by rw [e37, o_up_a (by omega)]
      have g12 : i44 (y + 12) q = hp (y + 12) q := by rw [e44, o_up_a (by omega), e37, o_up_a (by omega)]
      rw [g10] at e41
      rw [g12] at e48
      have fresh : x10 = 1 → mq_S i51 y q k (nI X) x27 x30 (some (X, s, s + jx, b, s + jx, s)) := by
        intro h10
        rw [h10, if_neg (by decide)] at e20 e27 e30
        rw [e20, if_neg (by decide)] at e34 e41 e48
        exact ⟨rfl, e27, e30, by rw [w9, e34], by rw [w10, e41], by rw [w12, e48], by omega, by omega, by omega, hb, by omega, by omega⟩
      match Q, hQ with
      | none, hQ =>
        have hQ : v3 = nI (k + 1) := hQ
        have h10 : x10 = 1 := by rw [e10, hQ, if_neg (nI_ge (by omega) (by omega))]
        rw [show pl_step k s (s + jx) b X none = some (X, s, s + jx, b, s + jx, s) from if_pos (by omega)]
        exact fresh h10
      | some (l, f, t, bk, fe, ls), hQ =>
        obtain ⟨q1, q2, q3, q4, q5, q6, q7, q8, q9, q10, q11, q12⟩ := hQ
        rw [q1, nI_ltI (by omega) (by omega)] at hnlt
        by_cases hlt : X < l
        · have h10 : x10 = 1 := by rw [e10, q1, if_neg (nI_ge (by omega) (by omega))]
          rw [show pl_step k s (s + jx) b X (some (l, f, t, bk, fe, ls)) = some (X, s, s + jx, b, s + jx, s) from if_pos hlt]
          exact fresh h10
        · have hXl : X = l := by omega
          subst hXl
          have h10 : x10 = 0 := by rw [e10, q1, if_pos (nI_le (by omega) (by omega))]
          have e27 : x27 = nI (max ls s) := by
            rw [e27, h10, if_pos rfl, q2]
            by_cases z : s ≤ ls
            · rw [if_pos (nI_le z (by omega)), Nat.max_eq_left z]
            · rw [if_neg (nI_ge (by omega) (by omega)), Nat.max_eq_right (by omega)]
          have e30 : x30 = nI (min fe (s + jx)) := by
            rw [e30, h10, if_pos rfl, q3]
            by_cases z : fe ≤ s + jx
            · rw [if_pos (nI_le z (by omega)), Nat.min_eq_left z]
            · rw [if_neg (nI_ge (by omega) (by omega)), Nat.min_eq_right (by omega)]
          rw [h10, if_pos rfl, q1, if_pos rfl, q4, q5] at e20
          have st : ∀ Y, (if s < f ∨ (s = f ∧ s + jx < t) then some (X, s, s + jx, b, min fe (s + jx), max ls s) else some (X, f, t, bk, min fe (s + jx), max ls s)) = Y → pl_step k s (s + jx) b X (some (X, f, t, bk, fe, ls)) = Y := by
            intro Y hY
            show (if X < X then _ else _) = _
            rw [if_neg hlt, if_pos rfl]
            exact hY
          have c1 : nI s < nI f ↔ s < f := nI_ltI (by omega) (by omega)
          have c2 : nI s = nI f ↔ s = f := nI_eq (by omega) (by omega)
          have c3 : nI t ≤ nI (s + jx) ↔ t ≤ s + jx := nI_leI (by omega) (by omega)
          by_cases hnew : s < f ∨ (s = f ∧ s + jx < t)
          · have h20 : x20 = 1 := by
              rw [e20]
              rcases hnew with z | ⟨z, z2⟩
              · rw [if_pos (c1.mpr z)]
              · rw [if_neg (fun w => by have := c1.mp w; omega), if_pos (c2.mpr z), if_neg (fun w => by have := c3.mp w; omega)]
            rw [h20, if_neg (by decide)] at e34 e41 e48
            rw [st _ (if_pos hnew)]
            exact ⟨rfl, e27, e30, by rw [w9, e34], by rw [w10, e41], by rw [w12, e48], by omega, by omega, by omega, hb, by omega, by omega⟩
          · have h20 : x20 = 0 := by
              rw [e20, if_neg (fun w => hnew (Or.inl (c1.mp w)))]
              by_cases z : s = f
              · rw [if_pos (c2.mpr z), if_pos (c3.mpr (by omega))]
              · rw [if_neg (fun w => z (c2.mp w))]
            rw [h20, if_pos rfl] at e34 e41 e48
            rw [st _ (if_neg hnew)]
            exact ⟨rfl, e27, e30, by rw [w9, e34]; exact q4, by rw [w10, e41]; exact q5, by rw [w12, e48]; exact q6, q7, q8, q9, q10, by omega, by omega⟩
    · have k1 : i51 a z = i44 a z := by
        rw [e51]
        by_cases e : a = y + 12
        · rw [o_up_k (fun w => haz ⟨Or.inr (Or.inr e), w⟩)]
        · rw [o_up_a e]
      have k2 : i44 a z = i37 a z := by
        rw [e44]
        by_cases e : a = y + 10
        · rw [o_up_k (fun w => haz ⟨Or.inr (Or.inl e), w⟩)]
        · rw [o_up_a e]
      have k3 : i37 a z = hp a z := by
        rw [e37]
        by_cases e : a = y + 9
        · rw [o_up_k (fun w => haz ⟨Or.inl e, w⟩)]
        · rw [o_up_a e]
      rw [k1, k2, k3]
      exact hF a z haz

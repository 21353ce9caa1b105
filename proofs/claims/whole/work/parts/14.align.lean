/-! ALIGNING: shapes, one cell of the table -/
def ly_al (G : o_G) (r : o_R) (al : Nat) : Prop := o_O G al 1 ∧ r al 0 = al + 1 ∧ o_Z G (al + 1) 3 17 ∧ ∀ k, k < 17 → r (al + 1) k = al + 2 + k ∧ o_Z G (al + 2 + k) 1 20
def ly_rd (G : o_G) (r : o_R) (rd : Nat) : Prop := o_O G rd 5 ∧ r rd 0 = rd + 1 ∧ o_Z G (rd + 1) 1 16 ∧ r rd 1 = rd + 2 ∧ o_Z G (rd + 2) 1 16 ∧ r rd 8 = rd + 3 ∧ o_Z G (rd + 3) 1 19
def ly_sm (G : o_G) (r : o_R) (sm : Nat) : Prop := o_O G sm 6 ∧ r sm 0 = sm + 1 ∧ o_Z G (sm + 1) 2 8 ∧ r sm 2 = sm + 2 ∧ o_Z G (sm + 2) 1 48 ∧ r sm 4 = sm + 3 ∧ o_Z G (sm + 3) 4 8 ∧ ∀ q, q < 8 → r (sm + 3) q = sm + 4 + 4 * q ∧ ly_rd G r (sm + 4 + 4 * q)
/-- 0 where letter a is the base at s + b, else 1 -/
def dp_c (f g : Nat → Int32) (s a b : Nat) : Nat := if f a = g (s + b) then 0 else 1
theorem dp_c1 (f g : Nat → Int32) (s a b : Nat) : dp_c f g s a b ≤ 1 := by
  unfold dp_c
  split <;> omega
theorem nI_m1 {n : Nat} (h : 0 < n) : nI n - 1 = nI (n - 1) := by
  rw [show n = (n - 1) + 1 by omega, nI_pred]
  rfl
theorem c_change {G : o_G} {d : Nat} {i : o_I} {r : o_R} {post : Int32 → o_I → Prop} {rd sm s a b : Nat} (hr : ly_rd G r rd) (hs : ly_sm G r sm) (ha : 0 < a) (ha2 : a ≤ 16) (hb : 0 < b) (hb2 : s + b ≤ 48) (h : post (nI (dp_c (i (rd + 1)) (i (sm + 2)) s (a - 1) (b - 1))) i) : SpI G (d + 1) mX1_change [.ref rd, .ref sm, .int (nI s), .int (nI a), .int (nI b)] post i r := by
  obtain ⟨hO, e0, hZ0, -⟩ := hr
  obtain ⟨hO2, -, -, e2, hZ2, -⟩ := hs
  refine sp_of 0 (by decide +kernel) (Nat.le_of_ble_eq_true rfl) rfl (sX1_change_0 rd sm _ _ _ ?_)
  rw [e0, e2, hZ0.len, hZ2.len, nI_add, nI_m1 ha, nI_m1 (by omega), nI_clamp (by omega), nI_clamp (by omega)]
  refine ⟨hO, hZ0.Y, vp_in_nI (by omega) (by decide), hO2, hZ2.Y, vp_in_nI (by omega) (by decide), fun x hx => ?_⟩
  have e : x = nI (dp_c (i (rd + 1)) (i (sm + 2)) s (a - 1) (b - 1)) := by
    rw [hx, show s + b - 1 = s + (b - 1) by omega]
    unfold dp_c
    split <;> rfl
  rw [e]
  exact o_ri h
theorem nI_min {x y : Nat} (hx : x < 2 ^ 31) (hy : y < 2 ^ 31) : (if nI y < nI x then nI y else nI x) = nI (min x y) := by
  by_cases h : y < x
  · rw [if_pos ((nI_ltI hy hx).mpr h), Nat.min_eq_right (by omega)]
  · rw [if_neg (fun q => h ((nI_ltI hy hx).mp q)), Nat.min_eq_left (by omega)]
theorem nI_max {x y : Nat} (hx : x < 2 ^ 31) (hy : y < 2 ^ 31) : (if nI x < nI y then nI y else nI x) = nI (max x y) := by
  by_cases h : x < y
  · rw [if_pos ((nI_ltI hx hy).mpr h), Nat.max_eq_right (by omega)]
  · rw [if_neg (fun q => h ((nI_ltI hx hy).mp q)), Nat.max_eq_left (by omega)]
theorem c_distanceAt {G : o_G} {d : Nat} {i : o_I} {r : o_R} {post : Int32 → o_I → Prop} {al rd sm s a b x y z : Nat} (hal : ly_al G r al) (hr : ly_rd G r rd) (hs : ly_sm G r sm) (ha2 : a ≤ 16) (hb2 : b ≤ 19) (hsb : s + b ≤ 48)
    (h0 : a = 0 ∨ b = 0 → post (nI (a + b)) i)
    (hx : 0 < a → 0 < b → i (al + 2 + (a - 1)) (b - 1) = nI x ∧ x ≤ 2000) (hy : 0 < a → 0 < b → i (al + 2 + (a - 1)) b = nI y ∧ y ≤ 2000) (hz : 0 < a → 0 < b → i (al + 2 + a) (b - 1) = nI z ∧ z ≤ 2000)
    (h1 : 0 < a → 0 < b → post (nI (min (x + dp_c (i (rd + 1)) (i (sm + 2)) s (a - 1) (b - 1)) (min y z + 1))) i) : SpI G (d + 2) mX1_distanceAt [.ref al, .ref rd, .ref sm, .int (nI s), .int (nI a), .int (nI b)] post i r := by
  obtain ⟨hO, e0, hZ, hR⟩ := hal
  refine sp_of 1 (by decide +kernel) (Nat.le_of_ble_eq_true rfl) rfl (sX1_distanceAt_0 al rd sm _ _ _ ⟨fun ha => ?_, fun ha => ⟨fun hb => ?_, fun hb => ?_⟩⟩)
  · have : a = 0 := (nI_eq (b := 0) (by omega) (by decide)).mp ha
    rw [nI_add]
    exact o_ri (h0 (Or.inl this))
  · have ha0 : 0 < a := Nat.pos_of_ne_zero (fun q => ha (by rw [q]; rfl))
    have hb0 : 0 < b := Nat.pos_of_ne_zero (fun q => hb (by rw [q]; rfl))
    obtain ⟨r1, Z1⟩ := hR (a - 1) (by omega)
    obtain ⟨r2, Z2⟩ := hR a (by omega)
    rw [nI_m1 ha0, nI_m1 hb0, e0, hZ.len, nI_clamp (n := a - 1) (by omega), nI_clamp (n := b - 1) (by omega), nI_clamp (n := a) (by omega), nI_clamp (n := b) (by omega), r1, r2, Z1.len, Z2.len, (hx ha0 hb0).1]
    refine ⟨hO, hZ.Y, vp_in_nI (by omega) (by decide), Z1.Y, vp_in_nI (by omega) (by decide), c_change hr hs ha0 ha2 hb0 hsb (fun x9 e9 => ?_)⟩
    rw [(hy ha0 hb0).1, (hz ha0 hb0).1]
    refine ⟨vp_in_nI (by omega) (by decide), vp_in_nI (by omega) (by decide), Z2.Y, vp_in_nI (by omega) (by decide), ?_⟩
    have b1 := (hx ha0 hb0).2
    have b2 := (hy ha0 hb0).2
    have b3 := (hz ha0 hb0).2
    have b4 := dp_c1 (i (rd + 1)) (i (sm + 2)) s (a - 1) (b - 1)
    rw [e9, nI_add, nI_min (by omega) (by omega), nI_1, nI_min (by omega) (by omega)]
    exact o_ri (h1 ha0 hb0)
  · have : b = 0 := (nI_eq (b := 0) (by omega) (by decide)).mp hb
    rw [nI_add]
    exact o_ri (h0 (Or.inr this))
/-- row a of the table holds the distances up to K -/
def al_row (i : o_I) (al : Nat) (c : Nat → Nat → Nat) (K w a : Nat) : Prop := ∀ j, j ≤ w → j ≤ a + K + 1 → a ≤ j + K + 1 → ∃ x, x ≤ 1000 + a ∧ i (al + 2 + a) j = nI x ∧ dp_eq K x (dp c a j)
theorem nI_psub {a b : Nat} (ha : a < 2 ^ 30) (hb : b < 2 ^ 30) : (if 0 < nI a - nI b then nI a - nI b else 0) = nI (a - b) := by
  by_cases h : b ≤ a
  · rw [pk_sub h]
    by_cases h2 : a - b = 0
    · rw [h2, if_neg (by decide)]
      rfl
    · rw [if_pos (show (0 : Int32) < nI (a - b) from nI_lt (a := 0) (b := a - b) (by omega) (by omega))]
  · rw [if_neg (fun q => ?_), show a - b = 0 by omega]
    · rfl
    · exact Int32.lt_irrefl (Int32.lt_trans q (pk_sneg (a := a) (b := b) hb (by omega)))
theorem c_fillRow1 {G : o_G} {d : Nat} {i : o_I} {r : o_R} {P : o_P} {al rd sm s a n K len : Nat} (hal : ly_al G r al) (hr : ly_rd G r rd) (hs : ly_sm G r sm) (d1 : al + 19 ≤ sm) (d2 : sm + 4 ≤ rd) (hK3 : K ≤ 3) (hn16 : n ≤ 16) (hl48 : len ≤ 48) (hsl : s < len) (ha : a ≤ n)
    {w : Nat} (hw : w = min (len - s) (n + K)) {c : Nat → Nat → Nat} (hc : c = dp_c (i (rd + 1)) (i (sm + 2)) s) (hprev : 0 < a → al_row i al c K w (a - 1))
    (h : ∀ j lst, (∀ b k, b ≠ al + 2 + a → j b k = i b k) → al_row j al c K w a → (K < lst → ∀ q, q ≤ w → K < dp c a q) → lst ≤ 1000 → P (some (.int (nI lst))) j r) :
    ∀ m q j lst, min w (a + K) + 1 ≤ q + m → q ≤ w + 17 → a - K ≤ q → (q ≤ min w (a + K) + 1 ∨ q = a - K) → (∀ b k, b ≠ al + 2 + a → j b k = i b k) → (∀ p, p < q → p ≤ w → p ≤ a + K + 1 → a ≤ p + K + 1 → ∃ x, x ≤ 1000 + a ∧ j (al + 2 + a) p = nI x ∧ dp_eq K x (dp c a p)) → (K < lst → ∀ p, a - K ≤ p → p < q → p ≤ w → K < dp c a p) → lst ≤ 1000 →
      Ok G (d + 3) mX1_fillRow P 76 [some (.ref al), some (.ref rd), some (.ref sm), some (.int (nI s)), some (.int (nI a)), some (.int (nI w)), none, some (.int (nI (min w (a + K)))), some (.int (nI lst)), some (.int (nI q))] [] j r := by
  obtain ⟨r1, Z1⟩ := hal.2.2.2 a (by omega)
  have hca : (nI a).toNatClampNeg = a := nI_clamp (by omega)
  intro m
  induction m with
  | zero =>
    intro q j lst hm hq17 hq0 hq1 hj hcell hlst hl
    refine sX1_fillRow_76 al rd sm _ _ _ _ _ _ ⟨fun _ => ⟨fun hle => ?_, fun hle => ?_⟩, fun hn => absurd (nI_lt (by omega) (by omega)) hn⟩
    · rw [nI_leI (by omega) (by omega)] at hle
      refine h j lst hj (fun p hp1 hp2 hp3 => hcell p (by omega) hp1 hp2 hp3) (fun hk p hp => ?_) hl
      by_cases hp2 : a - K ≤ p
      · exact hlst hk p hp2 (by omega) hp
      · have := (dp_lo c a p).1
        omega
    · rw [nI_leI (by omega) (by omega)] at hle
      rw [hca, nI_1, hal.2.1, r1, hal.2.2.1.len, Z1.len, nI_clamp (by omega)]
      refine ⟨hal.1, hal.2.2.1.Y, vp_in_nI (by omega) (by decide), Z1.Y, vp_in_nI (by omega) (by decide), fun i8 e8 => ?_⟩
      refine h i8 lst (fun b k hb => by rw [e8, o_up_a hb]; exact hj b k hb) (fun p hp1 hp2 hp3 => ?_) (fun hk p hp => ?_) hl
      · by_cases e : p = min w (a + K) + 1
        · refine ⟨1000, by omega, by rw [e8, e, o_up_s]; rfl, dp_eq_far (by omega) ?_⟩
          have := (dp_lo c a p).2
          omega
        · rw [e8, o_up_k e]
          exact hcell p (by omega) hp1 hp2 hp3
      · by_cases hp2 : a - K ≤ p
        · by_cases hp3 : p < q
          · exact hlst hk p hp2 hp3 hp
          · have := (dp_lo c a p).2
            omega
        · have := (dp_lo c a p).1
          omega
  | succ m ih =>
    intro q j lst hm hq17 hq0 hq1 hj hcell hlst hl
    by_cases hq : min w (a + K) < q
    · exact ih q j lst (by omega) hq17 hq0 hq1 hj hcell hlst hl
    · have hrow : 0 < a → al_row j al c K w (a - 1) := fun h0 p p1 p2 p3 => by
        obtain ⟨x, x1, x2, x3⟩ := hprev h0 p p1 p2 p3
        exact ⟨x, x1, by rw [hj _ _ (by omega)]; exact x2, x3⟩
      have hcj : dp_c (j (rd + 1)) (j (sm + 2)) s = c := by
        have q1 : j (rd + 1) = i (rd + 1) := funext (fun k => hj (rd + 1) k (by omega))
        have q2 : j (sm + 2) = i (sm + 2) := funext (fun k => hj (sm + 2) k (by omega))
        rw [hc, q1, q2]
      -- the new value
      have key : ∀ v, v ≤ 1000 + a → dp_eq K v (dp c a q) → ∀ i15 : o_I, i15 = o_up j (al + 2 + a) q (nI v) → ∀ x16 : Int32, x16 = (if i15 (al + 2 + a) q < nI lst then i15 (al + 2 + a) q else nI lst) → ∀ x17 : Int32, x17 = nI q + 1 →
          Ok G (d + 3) mX1_fillRow P 76 [some (.ref al), some (.ref rd), some (.ref sm), some (.int (nI s)), some (.int (nI a)), some (.int (nI w)), none, some (.int (nI (min w (a + K)))), some (.int x16), some (.int x17)] [] i15 r := by
        intro v hv he i15 e15 x16 e16 x17 e17
        rw [e15, o_up_s, nI_min (by omega) (by omega)] at e16
        rw [e16, e17, nI_1]
        refine ih (q + 1) i15 (min lst v) (by omega) (by omega) (by omega) (Or.inl (by omega)) (fun b k hb => by rw [e15, o_up_a hb]; exact hj b k hb) (fun p hp p1 p2 p3 => ?_) (fun hk p p1 p2 p3 => ?_) (by omega)
        · by_cases e : p = q
          · exact ⟨v, hv, by rw [e15, e, o_up_s], by rw [e]; exact he⟩
          · rw [e15, o_up_k e]
            exact hcell p (by omega) p1 p2 p3
        · by_cases e : p = q
          · subst e
            unfold dp_eq at he
            omega
          · exact hlst (by omega) p p1 (by omega) p3
      refine sX1_fillRow_76 al rd sm _ _ _ _ _ _ ⟨fun hn => absurd hn (nI_nlt (by omega) (by omega)), fun _ => ?_⟩
      have hcq : (nI q).toNatClampNeg = q := nI_clamp (by omega)
      rw [hca, hcq, hal.2.1, r1, hal.2.2.1.len, Z1.len]
      refine ⟨hal.1, hal.2.2.1.Y, vp_in_nI (by omega) (by decide), ?_⟩
      by_cases h0 : a = 0 ∨ q = 0
      · refine c_distanceAt (x := 0) (y := 0) (z := 0) hal hr hs (by omega) (by omega) (by omega) (fun _ => ⟨Z1.Y, vp_in_nI (by omega) (by decide), ?_⟩) (fun h1 h2 => by omega) (fun h1 h2 => by omega) (fun h1 h2 => by omega) (fun h1 h2 => by omega)
        refine key (a + q) (by omega) ?_
        have : dp c a q = a + q := by
          rcases h0 with rfl | rfl
          · rw [dp_0]; omega
          · rw [dp_z]; omega
        rw [this]
        exact fun _ => rfl
      · obtain ⟨x, x1, x2, x3⟩ := hrow (by omega) (q - 1) (by omega) (by omega) (by omega)
        obtain ⟨y, y1, y2, y3⟩ := hrow (by omega) q (by omega) (by omega) (by omega)
        obtain ⟨z, z1, z2, z3⟩ := hcell (q - 1) (by omega) (by omega) (by omega) (by omega)
        refine c_distanceAt (x := x) (y := y) (z := z) hal hr hs (by omega) (by omega) (by omega) (fun h1 => absurd h1 h0) (fun _ _ => ⟨x2, by omega⟩) (fun _ _ => ⟨y2, by omega⟩) (fun _ _ => ⟨z2, by omega⟩) (fun _ _ => ⟨Z1.Y, vp_in_nI (by omega) (by decide), ?_⟩)
        rw [hcj]
        have hc1 : c (a - 1) (q - 1) ≤ 1 := by rw [hc]; exact dp_c1 _ _ _ _ _
        refine key _ (by omega) ?_
        have := dp_cell (c := c) (i := a - 1) (j := q - 1) x3 (by rw [show q - 1 + 1 = q by omega]; exact y3) (by rw [show a - 1 + 1 = a by omega]; exact z3)
        rw [show a - 1 + 1 = a by omega, show q - 1 + 1 = q by omega] at this
        exact this
theorem c_fillRow {G : o_G} {d : Nat} {i : o_I} {r : o_R} {post : Int32 → o_I → Prop} {al rd sm s a n K len : Nat} (hal : ly_al G r al) (hr : ly_rd G r rd) (hs : ly_sm G r sm) (d1 : al + 19 ≤ sm) (d2 : sm + 4 ≤ rd) (hK : i al 1 = nI K) (hK3 : K ≤ 3) (hn : i rd 2 = nI n) (hn16 : n ≤ 16) (hl : i sm 3 = nI len) (hl48 : len ≤ 48) (hsl : s < len) (ha : a ≤ n)
    {w : Nat} (hw : w = min (len - s) (n + K)) {c : Nat → Nat → Nat} (hc : c = dp_c (i (rd + 1)) (i (sm + 2)) s) (hprev : 0 < a → al_row i al c K w (a - 1))
    (h : ∀ j lst, (∀ b k, b ≠ al + 2 + a → j b k = i b k) → al_row j al c K w a → (K < lst → ∀ q, q ≤ w → K < dp c a q) → lst ≤ 1000 → post (nI lst) j) : SpI G (d + 3) mX1_fillRow [.ref al, .ref rd, .ref sm, .int (nI s), .int (nI a)] post i r := by
  obtain ⟨r1, Z1⟩ := hal.2.2.2 a (by omega)
  refine sp_of 5 (by decide +kernel) (Nat.le_of_ble_eq_true rfl) rfl (sX1_fillRow_0 al rd sm _ _ ?_)
  rw [hK, hn, hl]
  refine ⟨hs.1, hr.1, hal.1, fun x4 e4 x5 e5 x6 e6 => ?_⟩
  rw [nI_add, pk_sub (by omega), nI_min (by omega) (by omega), ← hw] at e4
  rw [nI_psub (by omega) (by omega)] at e5
  rw [e4, nI_add, nI_min (by omega) (by omega)] at e6
  rw [e4, e5, e6, hal.2.1, nI_clamp (by omega), r1, hal.2.2.1.len, Z1.len]
  refine ⟨fun hle => ?_, fun hle => ⟨hal.2.2.1.Y, vp_in_nI (by omega) (by decide), Z1.Y, ?_⟩⟩
  · have h0 : a - K ≤ 0 := (nI_leI (b := 0) (by omega) (by decide)).mp hle
    refine c_fillRow1 hal hr hs d1 d2 hK3 hn16 hl48 hsl ha hw hc hprev (fun j lst a1 a2 a3 a4 => o_ri (h j lst a1 a2 a3 a4)) (min w (a + K) + 1) (a - K) i 1000 (by omega) (by omega) (Nat.le_refl _) (Or.inr rfl) (fun _ _ _ => rfl) (fun p hp => by omega) (fun _ p p1 p2 => by omega) (Nat.le_refl _)
  · have h0 : 0 < a - K := Nat.pos_of_ne_zero (fun q => hle (by rw [q]; decide))
    rw [nI_m1 h0, nI_clamp (by omega)]
    refine ⟨vp_in_nI (by omega) (by decide), fun i12 e12 => ?_⟩
    have hcj : dp_c (i12 (rd + 1)) (i12 (sm + 2)) s = c := by
      rw [hc, e12, o_up_row (by omega), o_up_row (by omega)]
    refine c_fillRow1 (i := i12) hal hr hs d1 d2 hK3 hn16 hl48 hsl ha hw hcj.symm (fun h0 p p1 p2 p3 => ?_) (fun j lst a1 a2 a3 a4 => o_ri (h j lst (fun b k hb => by rw [a1 b k hb, e12, o_up_a hb]) a2 a3 a4)) (min w (a + K) + 1) (a - K) i12 1000 (by omega) (by omega) (Nat.le_refl _) (Or.inr rfl) (fun _ _ _ => rfl) (fun p hp p1 p2 p3 => ?_) (fun _ p p1 p2 => by omega) (Nat.le_refl _)
    · obtain ⟨x, x1, x2, x3⟩ := hprev h0 p p1 p2 p3
      exact ⟨x, x1, by rw [e12, o_up_a (by omega)]; exact x2, x3⟩
    · have e : p = a - K - 1 := by omega
      refine ⟨1000, by omega, by rw [e12, e, o_up_s]; rfl, dp_eq_far (by omega) ?_⟩
      have := (dp_lo c a p).1
      omega
/-- Aligner.fill: true and all rows hold, or false and no distance of the last row is within K -/
theorem c_fill1 {G : o_G} {d : Nat} {i : o_I} {r : o_R} {P : o_P} {al rd sm s n K len : Nat} (hal : ly_al G r al) (hr : ly_rd G r rd) (hs : ly_sm G r sm) (d1 : al + 19 ≤ sm) (d2 : sm + 4 ≤ rd) (hK : i al 1 = nI K) (hK3 : K ≤ 3) (hn : i rd 2 = nI n) (hn16 : n ≤ 16) (hl : i sm 3 = nI len) (hl48 : len ≤ 48) (hsl : s < len)
    {w : Nat} (hw : w = min (len - s) (n + K)) {c : Nat → Nat → Nat} (hc : c = dp_c (i (rd + 1)) (i (sm + 2)) s)
    (h1 : ∀ j, (∀ b k, (b < al + 2 ∨ al + 19 ≤ b) → j b k = i b k) → (∀ a, a ≤ n → al_row j al c K w a) → P (some (.int 1)) j r)
    (h0 : ∀ j, (∀ b k, (b < al + 2 ∨ al + 19 ≤ b) → j b k = i b k) → (∀ q, q ≤ w → K < dp c n q) → P (some (.int 0)) j r) :
    ∀ m a j, a + m = n + 1 → (∀ b k, (b < al + 2 ∨ al + 19 ≤ b) → j b k = i b k) → (∀ q, q < a → al_row j al c K w q) → Ok G (d + 4) mX1_fill P 3 [some (.ref al), some (.ref rd), some (.ref sm), some (.int (nI s)), some (.int (nI a))] [] j r := by
  intro m
  induction m with
  | zero =>
    intro a j hm hj hrow
    refine sX1_fill_3 al rd sm _ _ ⟨hr.1, fun _ => h1 j hj (fun q hq => hrow q (by omega)), fun hn' => absurd ?_ hn'⟩
    rw [hj rd 2 (by omega), hn]
    exact nI_lt (by omega) (by omega)
  | succ m ih =>
    intro a j hm hj hrow
    refine sX1_fill_3 al rd sm _ _ ⟨hr.1, fun hlt => absurd hlt ?_, fun _ => ⟨hal.1, ?_⟩⟩
    · rw [hj rd 2 (by omega), hn]
      exact nI_nlt (by omega) (by omega)
    · have hcj : c = dp_c (j (rd + 1)) (j (sm + 2)) s := by
        have q1 : j (rd + 1) = i (rd + 1) := funext (fun k => hj (rd + 1) k (by omega))
        have q2 : j (sm + 2) = i (sm + 2) := funext (fun k => hj (sm + 2) k (by omega))
        rw [hc, q1, q2]
      refine c_fillRow hal hr hs d1 d2 (by rw [hj al 1 (by omega)]; exact hK) hK3 (by rw [hj rd 2 (by omega)]; exact hn) hn16 (by rw [hj sm 3 (by omega)]; exact hl) hl48 hsl (by omega) hw hcj (fun h0 => hrow (a - 1) (by omega)) (fun j2 lst a1 a2 a3 a4 => ?_)
      have hj2 : ∀ b k, (b < al + 2 ∨ al + 19 ≤ b) → j2 b k = i b k := fun b k hb => by rw [a1 b k (by omega)]; exact hj b k hb
      rw [hj2 al 1 (by omega), hK, nI_leI (by omega) (by omega)]
      refine ⟨fun hle x hx => ?_, fun hle => ?_⟩
      · rw [hx, nI_1]
        refine ih (a + 1) j2 (by omega) hj2 (fun q hq => ?_)
        by_cases e : q = a
        · subst e; exact a2
        · intro p p1 p2 p3
          obtain ⟨x, x1, x2, x3⟩ := hrow q (by omega) p p1 p2 p3
          exact ⟨x, x1, by rw [a1 _ _ (by omega)]; exact x2, x3⟩
      · exact h0 j2 hj2 (dp_ups (a3 (by omega)) n (by omega))
theorem c_fill {G : o_G} {d : Nat} {i : o_I} {r : o_R} {post : Int32 → o_I → Prop} {al rd sm s n K len : Nat} (hal : ly_al G r al) (hr : ly_rd G r rd) (hs : ly_sm G r sm) (d1 : al + 19 ≤ sm) (d2 : sm + 4 ≤ rd) (hK : i al 1 = nI K) (hK3 : K ≤ 3) (hn : i rd 2 = nI n) (hn16 : n ≤ 16) (hl : i sm 3 = nI len) (hl48 : len ≤ 48) (hsl : s < len)
    {w : Nat} (hw : w = min (len - s) (n + K)) {c : Nat → Nat → Nat} (hc : c = dp_c (i (rd + 1)) (i (sm + 2)) s)
    (h1 : ∀ j, (∀ b k, (b < al + 2 ∨ al + 19 ≤ b) → j b k = i b k) → (∀ a, a ≤ n → al_row j al c K w a) → post 1 j)
    (h0 : ∀ j, (∀ b k, (b < al + 2 ∨ al + 19 ≤ b) → j b k = i b k) → (∀ q, q ≤ w → K < dp c n q) → post 0 j) : SpI G (d + 4) mX1_fill [.ref al, .ref rd, .ref sm, .int (nI s)] post i r := by
  refine sp_of 1 (by decide +kernel) (Nat.le_of_ble_eq_true rfl) rfl (sX1_fill_0 al rd sm _ ?_)
  exact c_fill1 hal hr hs d1 d2 hK hK3 hn hn16 hl hl48 hsl hw hc (fun j a1 a2 => o_ri (h1 j a1 a2)) (fun j a1 a2 => o_ri (h0 j a1 a2)) (n + 1) 0 i (by omega) (fun _ _ _ => rfl) (fun q hq => absurd hq (Nat.not_lt_zero q))

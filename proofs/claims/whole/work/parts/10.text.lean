/-! TEXTS -/
/-- byte k of a word -/
def tx_by (w : Int32) (k : Nat) : Int32 := (w >>> (nI (8 * k) &&& 31)) &&& 255
theorem tx_byte (w : Int32) {k : Nat} (hk : k < 4) : ((w).toUInt32 >>> (((8 * nI k) : Int32).toUInt32 &&& Int32.toUInt32 31)).toInt32 &&& 255 = tx_by w k := by
  have e : (8 : Int32) * nI k = nI (8 * k) := pk_mul 8 k
  rw [e]
  unfold tx_by
  apply b_ext
  intro j hj
  rw [b_and, b_and, b_ushr (8 * k) (by omega), b_sshr (8 * k) (by omega) w hj, b_255]
  by_cases h : j < 8
  · rw [if_pos (by omega)]
  · simp [h]
theorem tx_by_in (w : Int32) (k : Nat) : ∃ c : Nat, c < 256 ∧ tx_by w k = nI c := pk_andE _ 8 (by decide)
theorem tx_chr {x : Int32} (h : ∃ c : Nat, c < 256 ∧ x = nI c) : vp_nar .char ((x : Int32).toUInt32 % 65536).toInt32 = x := by
  obtain ⟨c, hc, rfl⟩ := h
  rw [pk_vc, (sb_byte c hc).2.1]
/-- a char that a text may hold -/
def tx_al (x : Int32) : Prop := x = 10 ∨ (¬ x < 32 ∧ ¬ 126 < x)
theorem c_byteOf {G : o_G} {d : Nat} {i : o_I} {r : o_R} {post : Int32 → o_I → Prop} {w : Int32} {k : Nat} (hk : k < 4) (h : post (tx_by w k) i) : SpI G (d + 1) mX9_byteOf [.int w, .int (nI k)] post i r := by
  refine sp_of 0 (by decide +kernel) (Nat.le_of_ble_eq_true rfl) rfl (sX9_byteOf_0 w (nI k) ?_)
  rw [tx_byte w hk]
  exact o_ri h
theorem c_allowed {G : o_G} {d : Nat} {i : o_I} {r : o_R} {post : Int32 → o_I → Prop} {x : Int32} (h1 : tx_al x → post 1 i) (h0 : ¬ tx_al x → post 0 i) : SpI G (d + 1) mX9_allowed [.int x] post i r := by
  refine sp_of 0 (by decide +kernel) (Nat.le_of_ble_eq_true rfl) rfl (sX9_allowed_0 x ?_)
  intro y hy
  by_cases h : tx_al x
  · have e : y = 1 := by
      rw [hy]
      unfold tx_al at h
      rcases h with h | ⟨ha, hb⟩
      · rw [if_pos h]
      · rw [if_neg ha, if_neg hb]
        split <;> rfl
    subst e
    exact ⟨Or.inr rfl, o_ri (h1 h)⟩
  · have e : y = 0 := by
      rw [hy]
      unfold tx_al at h
      have ha : ¬ x = 10 := fun z => h (Or.inl z)
      rw [if_neg ha]
      by_cases hb : x < 32
      · rw [if_pos hb]
      · rw [if_neg hb]
        by_cases hc : 126 < x
        · rw [if_pos hc]
        · exact absurd (Or.inr ⟨hb, hc⟩) h
    subst e
    exact ⟨Or.inl rfl, o_ri (h0 h)⟩
/-- may n bytes of w be put behind u chars of cap? -/
def tx_ok (w n : Int32) (u cap : Nat) : Prop := ∃ m : Nat, n = nI m ∧ 1 ≤ m ∧ m ≤ 4 ∧ u + m ≤ cap ∧ ∀ k, k < m → tx_al (tx_by w k)
theorem nI_m (q : Nat) : nI q + (-1) = nI q - 1 := (Int32.sub_eq_add_neg (nI q) 1).symm
theorem c_append1 {G : o_G} {d : Nat} {i : o_I} {r : o_R} {P : o_P} {t m : Nat} {w : Int32} (hm : m ≤ 4) (hN : (¬ ∀ k, k < m → tx_al (tx_by w k)) → P (some (.int 0)) i r) (hY : (∀ k, k < m → tx_al (tx_by w k)) → Ok G (d + 2) mX9_append P 56 [some (.ref t), some (.int w), none, some (.int (nI m - 1))] [] i r) :
    ∀ q k : Nat, k + q = m → (∀ n, n < k → tx_al (tx_by w n)) → Ok G (d + 2) mX9_append P 28 [some (.ref t), some (.int w), some (.int (nI m)), some (.int (nI k))] [] i r := by
  intro q
  induction q with
  | zero =>
    intro k hk ha
    have e : k = m := by omega
    subst e
    refine sX9_append_28 t w (nI k) (nI k) ⟨fun _ x hx => ?_, fun hn => absurd (nI_le (Nat.le_refl k) (by omega)) hn⟩
    rw [hx]
    exact hY ha
  | succ q ih =>
    intro k hk ha
    refine sX9_append_28 t w (nI m) (nI k) ⟨fun hle => absurd hle (nI_ge (by omega) (by omega)), fun _ => ?_⟩
    refine c_byteOf (by omega) (c_allowed (fun h1 => ⟨fun _ x hx => ?_, fun h0 => absurd h0 (by decide)⟩) (fun h0 => ⟨fun h1 => absurd rfl h1, fun _ => ?_⟩))
    · rw [hx, nI_1]
      refine ih (k + 1) (by omega) (fun n hn => ?_)
      by_cases e : n = k
      · subst e; exact h1
      · exact ha n (by omega)
    · exact hN (fun hall => h0 (hall k (by omega)))
/-- what a text is behind e of the m chars -/
def tx_I (t c u m : Nat) (w : Int32) (i j : o_I) (e : Nat) : Prop := j t 1 = nI (u + e) ∧ (∀ k, k < u → j c k = i c k) ∧ (∀ k, k < e → j c (u + k) = tx_by w (m - 1 - k)) ∧ ∀ b k, b ≠ c → ¬ (b = t ∧ k = 1) → j b k = i b k
theorem c_append2 {G : o_G} {d : Nat} {i : o_I} {r : o_R} {P : o_P} {t m u cap : Nat} {w : Int32} (hO : o_O G t 9) (hY : o_Y G (r t 0) 2) (hl : o_len G (r t 0) = cap) (hcap : cap < 2 ^ 30) (hne : r t 0 ≠ t) (hm : m ≤ 4) (hu : u + m ≤ cap) (hF : ∀ j, tx_I t (r t 0) u m w i j m → P (some (.int 1)) j r) :
    ∀ q : Nat, q ≤ m → ∀ j, tx_I t (r t 0) u m w i j (m - q) → Ok G (d + 2) mX9_append P 56 [some (.ref t), some (.int w), none, some (.int (nI q - 1))] [] j r := by
  intro q
  induction q with
  | zero =>
    intro _ j hI
    exact sX9_append_56 t w _ ⟨fun _ => hF j hI, fun hn => absurd (by decide) hn⟩
  | succ q ih =>
    intro hq j hI
    obtain ⟨h1, h2, h3, h4⟩ := hI
    rw [nI_pred]
    have hx : (j t 1).toNatClampNeg = u + (m - (q + 1)) := by rw [h1, nI_clamp (by omega)]
    refine sX9_append_56 t w _ ⟨fun hlt => absurd hlt (nI_pos (by omega)), fun _ => ⟨hO, c_byteOf (by omega) ⟨hY, by rw [h1, hl]; exact vp_in_nI (by omega) (by omega), fun i6 e6 i7 e7 x8 e8 => ?_⟩⟩⟩
    rw [tx_chr (tx_by_in w q), hx] at e6
    rw [e8, nI_m]
    refine ih (by omega) i7 ⟨?_, fun k hk => ?_, fun k hk => ?_, fun b k hb hk => ?_⟩
    · rw [e7, o_up_s, e6, o_up_a (Ne.symm hne), h1, nI_1]
      congr 1
      omega
    · rw [e7, o_up_a hne, e6, o_up_k (by omega)]
      exact h2 k hk
    · rw [e7, o_up_a hne, e6]
      by_cases e : k = m - (q + 1)
      · subst e
        rw [o_up_s]
        congr 1
        omega
      · rw [o_up_k (by omega)]
        exact h3 k (by omega)
    · rw [e7]
      by_cases e : b = t
      · subst e
        have : k ≠ 1 := fun z => hk ⟨rfl, z⟩
        rw [o_up_k this, e6, o_up_a hb]
        exact h4 b k hb hk
      · rw [o_up_a e, e6, o_up_a hb]
        exact h4 b k hb hk
/-- Text.append -/
theorem c_append {G : o_G} {d : Nat} {i : o_I} {r : o_R} {post : Int32 → o_I → Prop} {t u cap : Nat} {w n : Int32} (hO : o_O G t 9) (hY : o_Y G (r t 0) 2) (hl : o_len G (r t 0) = cap) (hcap : cap < 2 ^ 30) (hne : r t 0 ≠ t) (hu : i t 1 = nI u) (hu2 : u ≤ cap) (h0 : ¬ tx_ok w n u cap → post 0 i) (h1 : ∀ m j, n = nI m → m ≤ 4 → u + m ≤ cap → tx_ok w n u cap → tx_I t (r t 0) u m w i j m → post 1 j) : SpI G (d + 2) mX9_append [.ref t, .int w, .int n] post i r := by
  refine sp_of 1 (by decide +kernel) (Nat.le_of_ble_eq_true rfl) rfl (sX9_append_0 t w n ?_)
  refine ⟨fun hn => o_ri (h0 ?_), fun hn => ⟨fun hn4 => o_ri (h0 ?_), fun hn4 => ⟨hO, hY, fun hle => ?_, fun hle => o_ri (h0 ?_)⟩⟩⟩
  · rintro ⟨m, rfl, hm, hm4, -⟩
    exact nI_nlt (b := 1) hm (by omega) hn
  · rintro ⟨m, rfl, -, hm, -⟩
    exact nI_nlt (a := 4) hm (by omega) hn4
  · have hn0 : ¬ n < 0 := fun z => hn (Int32.lt_trans z (by decide))
    obtain ⟨m, hm, rfl⟩ := nI_of2 (M := 4) (n := 4) (by decide) hn0 (Int32.not_lt.mp hn4)
    have hm1 : 1 ≤ m := by
      rcases Nat.eq_zero_or_pos m with rfl | h
      · exact absurd (by decide) hn
      · exact h
    rw [hu, hl, nI_add, nI_leI (by omega) (by omega)] at hle
    have key : ∀ hall : (∀ k, k < m → tx_al (tx_by w k)), tx_ok w (nI m) u cap := fun hall => ⟨m, rfl, hm1, hm, hle, hall⟩
    refine c_append1 (d := d) hm (fun hna => o_ri (h0 ?_)) (fun hall => ?_) m 0 (by omega) (fun n h => absurd h (Nat.not_lt_zero n))
    · rintro ⟨m', e, -, hm', -, hall⟩
      have : m = m' := (nI_eq (by omega) (by omega)).mp e
      subst this
      exact hna hall
    · refine c_append2 hO hY hl hcap hne hm hle (fun j hj => o_ri (h1 m j rfl hm hle (key hall) hj)) m (Nat.le_refl m) i ?_
      rw [Nat.sub_self]
      exact ⟨hu, fun _ _ => rfl, fun k h => absurd h (Nat.not_lt_zero k), fun _ _ _ _ => rfl⟩
  · rintro ⟨m, rfl, -, hm, hle2, -⟩
    rw [hu, hl, nI_add, nI_leI (by omega) (by omega)] at hle
    exact hle hle2
/-- an array of kind k and length n -/
def o_Z (G : o_G) (a k n : Nat) : Prop := a ∈ o_L G ∧ o_S G a = (k, n)
theorem o_Z.Y {G : o_G} {a k n : Nat} (h : o_Z G a k n) : o_Y G a k := ⟨h.1, by rw [h.2]⟩
theorem o_Z.len {G : o_G} {a k n : Nat} (h : o_Z G a k n) : o_len G a = n := by unfold o_len; rw [h.2]
/-- a Text of room cap: its chars are the next cell -/
def ly_text (G : o_G) (r : o_R) (t cap : Nat) : Prop := o_O G t 9 ∧ r t 0 = t + 1 ∧ o_Z G (t + 1) 2 cap
theorem c_append' {G : o_G} {d : Nat} {i : o_I} {r : o_R} {post : Int32 → o_I → Prop} {t u cap : Nat} {w n : Int32} (hT : ly_text G r t cap) (hcap : cap < 2 ^ 30) (hu : i t 1 = nI u) (hu2 : u ≤ cap) (h0 : ¬ tx_ok w n u cap → post 0 i) (h1 : ∀ m j, n = nI m → m ≤ 4 → u + m ≤ cap → tx_ok w n u cap → tx_I t (t + 1) u m w i j m → post 1 j) : SpI G (d + 2) mX9_append [.ref t, .int w, .int n] post i r := by
  obtain ⟨hO, hr, hZ⟩ := hT
  exact c_append hO (by rw [hr]; exact hZ.Y) (by rw [hr]; exact hZ.len) hcap (by omega) hu hu2 h0 (fun m j e h4 hle hk hj => h1 m j e h4 hle hk (by rw [hr] at hj; exact hj))
/-- the two texts of a ReadCaller at x -/
def ly_texts (G : o_G) (r : o_R) (x : Nat) : Prop := o_O G x 0 ∧ r x 0 = x + 1 ∧ r x 1 = x + 3 ∧ ly_text G r (x + 1) 100 ∧ ly_text G r (x + 3) 420
theorem c_textOf {G : o_G} {d : Nat} {i : o_I} {r : o_R} {post : Option Nat → o_I → Prop} {x : Nat} {n : Int32} (hx : ly_texts G r x) (h0 : n = 0 → post (some (x + 1)) i) (h1 : n = 1 → post (some (x + 3)) i) (h2 : ¬ n = 0 → ¬ n = 1 → post none i) : SpQ G (d + 1) mX0_textOf [.ref x, .int n] post i r := by
  obtain ⟨hO, e0, e1, -⟩ := hx
  refine sp_of 0 (by decide +kernel) (Nat.le_of_ble_eq_true rfl) rfl (sX0_textOf_0 x n ⟨fun hn => ⟨fun hn1 => o_rq (h2 hn hn1), fun hn1 => ⟨hO, o_rq (by rw [e1]; exact h1 hn1)⟩⟩, fun hn => ⟨hO, o_rq (by rw [e0]; exact h0 hn)⟩⟩)
/-- the texts: lengths and chars -/
def tx_S (i : o_I) (x : Nat) (n0 n1 : Nat) (f0 f1 : Nat → Int32) : Prop := (i (x + 1) 1 = nI n0 ∧ n0 ≤ 100 ∧ ∀ k, k < n0 → i (x + 2) k = f0 k) ∧ (i (x + 3) 1 = nI n1 ∧ n1 ≤ 420 ∧ ∀ k, k < n1 → i (x + 4) k = f1 k)
/-- m bytes of w behind u chars -/
def tx_put (f : Nat → Int32) (u m : Nat) (w : Int32) : Nat → Int32 := fun k => if k < u then f k else tx_by w (m - 1 - (k - u))
theorem tx_after {t c u m : Nat} {w : Int32} {i j : o_I} {f : Nat → Int32} (h : ∀ k, k < u → i c k = f k) (hI : tx_I t c u m w i j m) : ∀ k, k < u + m → j c k = tx_put f u m w k := by
  intro k hk
  unfold tx_put
  by_cases hlt : k < u
  · rw [if_pos hlt, hI.2.1 k hlt, h k hlt]
  · rw [if_neg hlt]
    have := hI.2.2.1 (k - u) (by omega)
    rw [show u + (k - u) = k by omega] at this
    exact this
theorem c_put {G : o_G} {d : Nat} {i : o_I} {r : o_R} {post : Int32 → o_I → Prop} {x n0 n1 : Nat} {f0 f1 : Nat → Int32} {t w n : Int32} (hx : ly_texts G r x) (hS : tx_S i x n0 n1 f0 f1)
    (h0 : ¬ (t = 0 ∧ tx_ok w n n0 100) → ¬ (t = 1 ∧ tx_ok w n n1 420) → post 0 i)
    (h1 : ∀ m j, t = 0 → n = nI m → m ≤ 4 → tx_ok w n n0 100 → tx_S j x (n0 + m) n1 (tx_put f0 n0 m w) f1 → (∀ b k, b ≠ x + 2 → ¬ (b = x + 1 ∧ k = 1) → j b k = i b k) → post 1 j)
    (h2 : ∀ m j, t = 1 → n = nI m → m ≤ 4 → tx_ok w n n1 420 → tx_S j x n0 (n1 + m) f0 (tx_put f1 n1 m w) → (∀ b k, b ≠ x + 4 → ¬ (b = x + 3 ∧ k = 1) → j b k = i b k) → post 1 j) : SpI G (d + 3) mX0_put [.ref x, .int t, .int w, .int n] post i r := by
  obtain ⟨⟨a1, a2, a3⟩, b1, b2, b3⟩ := hS
  refine sp_of 1 (by decide +kernel) (Nat.le_of_ble_eq_true rfl) rfl (sX0_put_0 x t w n ⟨hx.1, c_textOf (d := d + 1) hx (fun ht => ⟨fun y hy => ?_, fun hy => by cases hy⟩) (fun ht => ⟨fun y hy => ?_, fun hy => by cases hy⟩) (fun ht0 ht1 => ⟨fun y hy => (by cases hy), fun _ => ?_⟩)⟩)
  · cases hy
    refine ⟨hx.2.2.2.1.1, c_append' hx.2.2.2.1 (by decide) a1 a2 (fun hk z hz => ?_) (fun m j e h4 hle hk hj z hz => ?_)⟩
    · rw [if_pos rfl] at hz
      subst hz
      exact ⟨Or.inl rfl, o_ri (h0 (fun q => hk q.2) (fun q => by rw [ht] at q; exact absurd q.1 (by decide)))⟩
    · rw [if_neg (by decide)] at hz
      subst hz
      have j4 := hj.2.2.2
      exact ⟨Or.inr rfl, o_ri (h1 m j ht e h4 hk ⟨⟨hj.1, hle, tx_after a3 hj⟩, by rw [j4 _ _ (by omega) (by omega)]; exact b1, b2, fun k hk' => by rw [j4 _ _ (by omega) (by omega)]; exact b3 k hk'⟩ j4)⟩
  · cases hy
    refine ⟨hx.2.2.2.2.1, c_append' hx.2.2.2.2 (by decide) b1 b2 (fun hk z hz => ?_) (fun m j e h4 hle hk hj z hz => ?_)⟩
    · rw [if_pos rfl] at hz
      subst hz
      exact ⟨Or.inl rfl, o_ri (h0 (fun q => by rw [ht] at q; exact absurd q.1 (by decide)) (fun q => hk q.2))⟩
    · rw [if_neg (by decide)] at hz
      subst hz
      have j4 := hj.2.2.2
      exact ⟨Or.inr rfl, o_ri (h2 m j ht e h4 hk ⟨⟨by rw [j4 _ _ (by omega) (by omega)]; exact a1, a2, fun k hk' => by rw [j4 _ _ (by omega) (by omega)]; exact a3 k hk'⟩, hj.1, hle, tx_after b3 hj⟩ j4)⟩
  · exact o_ri (h0 (fun q => ht0 q.1) (fun q => ht1 q.1))
theorem c_clear {G : o_G} {d : Nat} {i : o_I} {r : o_R} {post : Int32 → o_I → Prop} {x : Nat} {t : Int32} (hx : ly_texts G r x) (h0 : ¬ t = 0 → ¬ t = 1 → post 0 i) (h1 : t = 0 → post 1 (o_up i (x + 1) 1 0)) (h2 : t = 1 → post 1 (o_up i (x + 3) 1 0)) : SpI G (d + 2) mX0_clear [.ref x, .int t] post i r := by
  refine sp_of 1 (by decide +kernel) (Nat.le_of_ble_eq_true rfl) rfl (sX0_clear_0 x t ⟨hx.1, c_textOf (d := d) hx (fun ht => ⟨fun y hy => ?_, fun hy => by cases hy⟩) (fun ht => ⟨fun y hy => ?_, fun hy => by cases hy⟩) (fun ht0 ht1 => ⟨fun y hy => (by cases hy), fun _ => o_ri (h0 ht0 ht1)⟩)⟩)
  · cases hy
    exact ⟨hx.2.2.2.1.1, fun j hj => by rw [hj]; exact o_ri (h1 ht)⟩
  · cases hy
    exact ⟨hx.2.2.2.2.1, fun j hj => by rw [hj]; exact o_ri (h2 ht)⟩
theorem c_size {G : o_G} {d : Nat} {i : o_I} {r : o_R} {post : Int32 → o_I → Prop} {x : Nat} {t : Int32} (hx : ly_texts G r x) (h0 : ¬ t = 0 → ¬ t = 1 → post (-1) i) (h1 : t = 0 → post (i (x + 1) 1) i) (h2 : t = 1 → post (i (x + 3) 1) i) : SpI G (d + 2) mX0_size [.ref x, .int t] post i r := by
  refine sp_of 1 (by decide +kernel) (Nat.le_of_ble_eq_true rfl) rfl (sX0_size_0 x t ⟨hx.1, c_textOf (d := d) hx (fun ht => ⟨fun y hy => ?_, fun hy => by cases hy⟩) (fun ht => ⟨fun y hy => ?_, fun hy => by cases hy⟩) (fun ht0 ht1 => ⟨fun y hy => (by cases hy), fun _ => o_ri (h0 ht0 ht1)⟩)⟩)
  · cases hy
    exact ⟨hx.2.2.2.1.1, o_ri (h1 ht)⟩
  · cases hy
    exact ⟨hx.2.2.2.2.1, o_ri (h2 ht)⟩

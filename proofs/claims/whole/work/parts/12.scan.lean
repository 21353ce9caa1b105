/-! SCANNING: runs of chars of a kind -/
/-- how many of the places p, p + 1 .. are of a kind, at most m -/
def px_run (f : Nat → Bool) (p : Nat) : Nat → Nat
  | 0 => 0
  | m + 1 => if f p = true then px_run f (p + 1) m + 1 else 0
theorem px_run_le (f : Nat → Bool) : ∀ m p, px_run f p m ≤ m := by
  intro m
  induction m with
  | zero => intro p; exact Nat.le_refl 0
  | succ m ih =>
    intro p
    have := ih (p + 1)
    unfold px_run
    split <;> omega
theorem px_run_in (f : Nat → Bool) : ∀ m p k, k < px_run f p m → f (p + k) = true := by
  intro m
  induction m with
  | zero => intro p k h; exact absurd h (Nat.not_lt_zero k)
  | succ m ih =>
    intro p k h
    unfold px_run at h
    by_cases hp : f p = true
    · rw [if_pos hp] at h
      cases k with
      | zero => exact hp
      | succ k =>
        have := ih (p + 1) k (by omega)
        rw [show p + (k + 1) = p + 1 + k by omega]
        exact this
    · rw [if_neg hp] at h
      exact absurd h (Nat.not_lt_zero k)
theorem px_run_out (f : Nat → Bool) : ∀ m p, px_run f p m < m → f (p + px_run f p m) = false := by
  intro m
  induction m with
  | zero => intro p h; exact absurd h (Nat.not_lt_zero _)
  | succ m ih =>
    intro p h
    by_cases hp : f p = true
    · have e : px_run f p (m + 1) = px_run f (p + 1) m + 1 := by rw [px_run, if_pos hp]
      rw [e] at h ⊢
      have := ih (p + 1) (by omega)
      rw [show p + (px_run f (p + 1) m + 1) = p + 1 + px_run f (p + 1) m by omega]
      exact this
    · have e : px_run f p (m + 1) = 0 := by rw [px_run, if_neg hp]
      rw [e]
      simpa using hp
/-- a letter's code, or -1 -/
def px_code (x : Int32) : Int32 := if x = 65 then 0 else (if x = 67 then 1 else (if x = 71 then 2 else (if x = 84 then 3 else (if x = 78 then 4 else (-1)))))
def px_vis (x : Int32) : Bool := !decide (x < 33) && !decide (126 < x)
def px_bas (x : Int32) : Bool := !decide (px_code x < 0) && !decide (4 ≤ px_code x)
def px_let (x : Int32) : Bool := !decide (px_code x < 0)
/-- kinds: 0 visible, 1 a base, else a letter -/
def px_of (k : Int32) (x : Int32) : Bool := if k = 0 then px_vis x else if k = 1 then px_bas x else px_let x
theorem px_of_0 (k : Int32) : px_of k 0 = false := by
  unfold px_of
  split
  · decide
  · split <;> decide
/-- the chars of a text, 0 behind its end -/
def px_lk (f : Nat → Int32) (n : Nat) : Nat → Int32 := fun k => if k < n then f k else 0
/-- the reference's look -/
theorem m_look {G : o_G} {d : Nat} {i : o_I} {r : o_R} {post : Int32 → o_I → Prop} {y n0 n1 t k : Nat} {f0 f1 : Nat → Int32} (hy : ly_mtx G r y) (hS : mt_S i y n0 n1 f0 f1) (ht : t ≤ 1) (hk : k ≤ 600) (hc0 : ∀ q, q < n0 → tx_al (f0 q)) (hc1 : ∀ q, q < n1 → tx_al (f1 q)) (h : post (if t = 0 then px_lk f0 n0 k else px_lk f1 n1 k) i) : SpI G (d + 1) mX10_look [.ref y, .int (nI t), .int (nI k)] post i r := by
  obtain ⟨hO, e0, e1, hZ0, hZ1⟩ := hy
  obtain ⟨⟨a1, a2, a3⟩, b1, b2, b3⟩ := hS
  have ht2 : (nI t).toNatClampNeg = t := nI_clamp (by omega)
  have hx : (100 : Int32) * nI t + nI k = nI (100 * t + k) := by rw [show (100 : Int32) * nI t = nI (100 * t) from pk_mul 100 t, nI_add]
  have nar : ∀ x : Int32, tx_al x ∨ x = 0 → narrow .char (.int x) = .int x := by
    intro x hx
    have : ∃ q, q < 65536 ∧ x = nI q := by
      rcases hx with (hx | ⟨ha, hb⟩) | hx
      · exact ⟨10, by decide, hx⟩
      · obtain ⟨q, hq, e⟩ := m_rng (n := 126) (N := 126) rfl (by decide) (fun z => ha (Int32.lt_trans z (by decide))) (Int32.not_lt.mp hb)
        exact ⟨q, by omega, e⟩
      · exact ⟨0, by decide, hx⟩
    obtain ⟨q, hq, rfl⟩ := this
    exact (pk_charN hq).1
  refine sp_of 0 (by decide +kernel) (Nat.le_of_ble_eq_true rfl) rfl (sX10_look_0 y (nI t) (nI k) ?_)
  rw [e0, e1, ht2, hx, hZ0.len, hZ1.len]
  rcases (show t = 0 ∨ t = 1 by omega) with rfl | rfl
  · have hle : nI n0 ≤ nI k ↔ n0 ≤ k := nI_leI (by omega) (by omega)
    rw [a1]
    rw [if_pos rfl] at h
    refine ⟨hO, hZ1.Y, vp_in_nI (by decide) (by decide), ⟨fun _ => trivial, fun hk' => ⟨hZ0.Y, vp_in_nI (by rw [hle] at hk'; omega) (by decide), trivial⟩⟩, fun x hx => ?_⟩
    by_cases hk' : n0 ≤ k
    · rw [if_pos (hle.mpr hk')] at hx
      subst hx
      unfold px_lk at h
      rw [if_neg (by omega)] at h
      exact ⟨nar 0 (Or.inr rfl), o_ri h⟩
    · rw [if_neg (fun z => hk' (hle.mp z)), nI_clamp (by omega), show 100 * 0 + k = k by omega, a3 k (by omega)] at hx
      subst hx
      unfold px_lk at h
      rw [if_pos (by omega)] at h
      exact ⟨nar _ (Or.inl (hc0 k (by omega))), o_ri h⟩
  · have hle : nI n1 ≤ nI k ↔ n1 ≤ k := nI_leI (by omega) (by omega)
    rw [b1]
    rw [if_neg (by decide)] at h
    refine ⟨hO, hZ1.Y, vp_in_nI (by decide) (by decide), ⟨fun _ => trivial, fun hk' => ⟨hZ0.Y, vp_in_nI (by rw [hle] at hk'; omega) (by decide), trivial⟩⟩, fun x hx => ?_⟩
    by_cases hk' : n1 ≤ k
    · rw [if_pos (hle.mpr hk')] at hx
      subst hx
      unfold px_lk at h
      rw [if_neg (by omega)] at h
      exact ⟨nar 0 (Or.inr rfl), o_ri h⟩
    · rw [if_neg (fun z => hk' (hle.mp z)), nI_clamp (by omega), show 100 * 1 + k = 100 + k by omega, b3 k (by omega)] at hx
      subst hx
      unfold px_lk at h
      rw [if_pos (by omega)] at h
      exact ⟨nar _ (Or.inl (hc1 k (by omega))), o_ri h⟩
theorem m_visible {G : o_G} {d : Nat} {i : o_I} {r : o_R} {post : Int32 → o_I → Prop} {x : Int32} (h1 : px_vis x = true → post 1 i) (h0 : px_vis x = false → post 0 i) : SpI G (d + 1) mX10_visible [.int x] post i r := by
  refine sp_of 0 (by decide +kernel) (Nat.le_of_ble_eq_true rfl) rfl (sX10_visible_0 x (fun z hz => ?_))
  unfold px_vis at h1 h0
  by_cases ha : x < 33
  · rw [if_pos ha] at hz
    subst hz
    exact ⟨Or.inl rfl, o_ri (h0 (by simp [ha]))⟩
  · rw [if_neg ha] at hz
    by_cases hb : 126 < x
    · rw [if_pos hb] at hz
      subst hz
      exact ⟨Or.inl rfl, o_ri (h0 (by simp [hb]))⟩
    · rw [if_neg hb] at hz
      subst hz
      exact ⟨Or.inr rfl, o_ri (h1 (by simp [ha, hb]))⟩
theorem m_codeOf {G : o_G} {d : Nat} {i : o_I} {r : o_R} {post : Int32 → o_I → Prop} {x : Int32} (h : post (px_code x) i) : SpI G (d + 1) mX10_codeOf [.int x] post i r := by
  refine sp_of 0 (by decide +kernel) (Nat.le_of_ble_eq_true rfl) rfl (sX10_codeOf_0 x (fun z hz => ?_))
  rw [hz]
  exact o_ri h
theorem m_isBase {G : o_G} {d : Nat} {i : o_I} {r : o_R} {post : Int32 → o_I → Prop} {x : Int32} (h1 : ¬ x < 0 → ¬ 4 ≤ x → post 1 i) (h0 : ¬ (¬ x < 0 ∧ ¬ 4 ≤ x) → post 0 i) : SpI G (d + 1) mX10_isBase [.int x] post i r := by
  refine sp_of 0 (by decide +kernel) (Nat.le_of_ble_eq_true rfl) rfl (sX10_isBase_0 x (fun z hz => ?_))
  by_cases ha : x < 0
  · rw [if_pos ha] at hz
    subst hz
    exact ⟨Or.inl rfl, o_ri (h0 (fun q => q.1 ha))⟩
  · rw [if_neg ha] at hz
    by_cases hb : 4 ≤ x
    · rw [if_pos hb] at hz
      subst hz
      exact ⟨Or.inl rfl, o_ri (h0 (fun q => q.2 hb))⟩
    · rw [if_neg hb] at hz
      subst hz
      exact ⟨Or.inr rfl, o_ri (h1 ha hb)⟩

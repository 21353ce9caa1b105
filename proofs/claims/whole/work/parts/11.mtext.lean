/-! THE REFERENCE'S TEXTS -/
theorem m_outside {G : o_G} {d : Nat} {i : o_I} {r : o_R} {post : Int32 → o_I → Prop} {v a b : Int32} (h1 : v < a ∨ ¬ v ≤ b → post 1 i) (h0 : ¬ v < a → v ≤ b → post 0 i) : SpI G (d + 1) mX10_outside [.int v, .int a, .int b] post i r := by
  refine sp_of 0 (by decide +kernel) (Nat.le_of_ble_eq_true rfl) rfl (sX10_outside_0 v a b (fun x hx => ?_))
  by_cases ha : v < a
  · rw [if_pos ha] at hx
    subst hx
    exact ⟨Or.inr rfl, o_ri (h1 (Or.inl ha))⟩
  · rw [if_neg ha] at hx
    by_cases hb : v ≤ b
    · rw [if_pos hb] at hx
      subst hx
      exact ⟨Or.inl rfl, o_ri (h0 ha hb)⟩
    · rw [if_neg hb] at hx
      subst hx
      exact ⟨Or.inr rfl, o_ri (h1 (Or.inr hb))⟩
/-- a number of 0 .. n -/
theorem m_rng {v : Int32} {n : Nat} {N : Int32} (hN : N = nI n) (hn : n < 2 ^ 31) (h0 : ¬ v < 0) (h1 : v ≤ N) : ∃ k, k ≤ n ∧ v = nI k := nI_of2 (M := N) (n := n) (by rw [hN, nI_toInt hn]) h0 h1
/-- the reference's object: its texts are its next two cells -/
def ly_mtx (G : o_G) (r : o_R) (y : Nat) : Prop := o_O G y 10 ∧ r y 0 = y + 1 ∧ r y 1 = y + 2 ∧ o_Z G (y + 1) 2 520 ∧ o_Z G (y + 2) 1 2
def mt_S (i : o_I) (y : Nat) (n0 n1 : Nat) (f0 f1 : Nat → Int32) : Prop := (i (y + 2) 0 = nI n0 ∧ n0 ≤ 100 ∧ ∀ k, k < n0 → i (y + 1) k = f0 k) ∧ (i (y + 2) 1 = nI n1 ∧ n1 ≤ 420 ∧ ∀ k, k < n1 → i (y + 1) (100 + k) = f1 k)
theorem m_two {t : Int32} (h0 : ¬ t < 0) (h1 : t ≤ 1) : t = 0 ∨ t = 1 := by
  obtain ⟨k, hk, rfl⟩ := m_rng (n := 1) (N := 1) rfl (by decide) h0 h1
  rcases (show k = 0 ∨ k = 1 by omega) with rfl | rfl
  · exact Or.inl rfl
  · exact Or.inr rfl
theorem m_clear {G : o_G} {d : Nat} {i : o_I} {r : o_R} {post : Int32 → o_I → Prop} {y : Nat} {t : Int32} (hy : ly_mtx G r y) (h0 : ¬ t = 0 → ¬ t = 1 → post 0 i) (h1 : t = 0 → post 1 (o_up i (y + 2) 0 0)) (h2 : t = 1 → post 1 (o_up i (y + 2) 1 0)) : SpI G (d + 2) mX10_clear [.ref y, .int t] post i r := by
  obtain ⟨hO, e0, e1, hZ0, hZ1⟩ := hy
  refine sp_of 0 (by decide +kernel) (Nat.le_of_ble_eq_true rfl) rfl (sX10_clear_0 y t (m_outside (fun ho => ⟨fun z => absurd z (by decide), fun _ => o_ri (h0 ?_ ?_)⟩) (fun ha hb => ⟨fun _ => ?_, fun z => absurd rfl z⟩)))
  · rintro rfl
    rcases ho with ho | ho
    · exact absurd ho (by decide)
    · exact ho (by decide)
  · rintro rfl
    rcases ho with ho | ho
    · exact absurd ho (by decide)
    · exact ho (by decide)
  · rw [e1]
    rcases m_two ha hb with rfl | rfl
    · exact ⟨hO, hZ1.Y, by rw [hZ1.len]; exact vp_in_nI (n := 0) (by decide) (by decide), fun j hj => by rw [hj]; exact o_ri (h1 rfl)⟩
    · exact ⟨hO, hZ1.Y, by rw [hZ1.len]; exact vp_in_nI (n := 1) (by decide) (by decide), fun j hj => by rw [hj]; exact o_ri (h2 rfl)⟩
theorem m_size {G : o_G} {d : Nat} {i : o_I} {r : o_R} {post : Int32 → o_I → Prop} {y : Nat} {t : Int32} (hy : ly_mtx G r y) (h0 : ¬ t = 0 → ¬ t = 1 → post (-1) i) (h1 : t = 0 → post (i (y + 2) 0) i) (h2 : t = 1 → post (i (y + 2) 1) i) : SpI G (d + 2) mX10_size [.ref y, .int t] post i r := by
  obtain ⟨hO, e0, e1, hZ0, hZ1⟩ := hy
  refine sp_of 0 (by decide +kernel) (Nat.le_of_ble_eq_true rfl) rfl (sX10_size_0 y t (m_outside (fun ho => ⟨⟨fun z => absurd z (by decide), fun _ => trivial⟩, fun x hx => ?_⟩) (fun ha hb => ⟨⟨fun _ => ?_, fun _ => trivial⟩, fun x hx => ?_⟩)))
  · rw [if_neg (by decide)] at hx
    subst hx
    refine o_ri (h0 ?_ ?_)
    · rintro rfl
      rcases ho with ho | ho
      · exact absurd ho (by decide)
      · exact ho (by decide)
    · rintro rfl
      rcases ho with ho | ho
      · exact absurd ho (by decide)
      · exact ho (by decide)
  · rw [e1]
    rcases m_two ha hb with rfl | rfl
    · exact ⟨hO, hZ1.Y, by rw [hZ1.len]; exact vp_in_nI (n := 0) (by decide) (by decide), trivial⟩
    · exact ⟨hO, hZ1.Y, by rw [hZ1.len]; exact vp_in_nI (n := 1) (by decide) (by decide), trivial⟩
  · rw [if_pos rfl, e1] at hx
    subst hx
    rcases m_two ha hb with rfl | rfl
    · exact o_ri (h1 rfl)
    · exact o_ri (h2 rfl)
theorem m_put1 {G : o_G} {d : Nat} {i : o_I} {r : o_R} {P : o_P} {y m : Nat} {t w : Int32} (hm : m ≤ 4) (hN : (¬ ∀ k, k < m → tx_al (tx_by w k)) → P (some (.int 0)) i r) (hY : (∀ k, k < m → tx_al (tx_by w k)) → Ok G (d + 2) mX10_put P 97 [some (.ref y), some (.int t), some (.int w), none, some (.int (nI m - 1)), none] [] i r) :
    ∀ q k : Nat, k + q = m → (∀ n, n < k → tx_al (tx_by w n)) → Ok G (d + 2) mX10_put P 46 [some (.ref y), some (.int t), some (.int w), some (.int (nI m)), some (.int (nI k)), none] [] i r := by
  intro q
  induction q with
  | zero =>
    intro k hk ha
    have e : k = m := by omega
    subst e
    refine sX10_put_46 y t w (nI k) (nI k) ⟨fun _ x hx => ?_, fun hn => absurd (nI_le (Nat.le_refl k) (by omega)) hn⟩
    rw [hx]
    exact hY ha
  | succ q ih =>
    intro k hk ha
    have hnext : tx_al (tx_by w k) → ∀ x : Int32, x = nI k + 1 → Ok G (d + 2) mX10_put P 46 [some (.ref y), some (.int t), some (.int w), some (.int (nI m)), some (.int x), none] [] i r := by
      intro h1 x hx
      rw [hx, nI_1]
      refine ih (k + 1) (by omega) (fun n hn => ?_)
      by_cases e : n = k
      · subst e; exact h1
      · exact ha n (by omega)
    refine sX10_put_46 y t w (nI m) (nI k) ⟨fun hle => absurd hle (nI_ge (by omega) (by omega)), fun _ x3 hx3 => ?_⟩
    have e : (8 : Int32) * nI k = nI (8 * k) := pk_mul 8 k
    rw [e] at hx3
    have hx3 : x3 = tx_by w k := hx3
    subst hx3
    refine ⟨fun h10 => hnext (Or.inl h10), fun h10 => m_outside (fun ho => ⟨fun z => absurd z (by decide), fun _ => hN (fun hall => ?_)⟩) (fun ha hb => ⟨fun _ => hnext (Or.inr ⟨ha, Int32.not_lt.mpr hb⟩), fun z => absurd rfl z⟩)⟩
    rcases hall k (by omega) with h | ⟨h, h'⟩
    · exact h10 h
    · rcases ho with ho | ho
      · exact h ho
      · exact ho (Int32.not_lt.mp h')
def mt_I (y tn u m : Nat) (w : Int32) (i j : o_I) (e : Nat) : Prop := j (y + 2) tn = nI (u + e) ∧ (∀ k, k < e → j (y + 1) (100 * tn + u + k) = tx_by w (m - 1 - k)) ∧ ∀ b k, ¬ (b = y + 2 ∧ k = tn) → ¬ (b = y + 1 ∧ 100 * tn + u ≤ k ∧ k < 100 * tn + u + m) → j b k = i b k
theorem m_put2 {G : o_G} {d : Nat} {i : o_I} {r : o_R} {P : o_P} {y tn m u : Nat} {w : Int32} (hy : ly_mtx G r y) (ht : tn ≤ 1) (hm : m ≤ 4) (hu : 100 * tn + u + m ≤ 520) (hF : ∀ j, mt_I y tn u m w i j m → P (some (.int 1)) j r) :
    ∀ q : Nat, q ≤ m → ∀ j, mt_I y tn u m w i j (m - q) → Ok G (d + 2) mX10_put P 97 [some (.ref y), some (.int (nI tn)), some (.int w), none, some (.int (nI q - 1)), none] [] j r := by
  obtain ⟨hO, e0, e1, hZ0, hZ1⟩ := hy
  intro q
  induction q with
  | zero =>
    intro _ j hI
    exact sX10_put_97 y _ w _ ⟨fun _ => hF j hI, fun hn => absurd (by decide) hn⟩
  | succ q ih =>
    intro hq j hI
    obtain ⟨h1, h3, h4⟩ := hI
    rw [nI_pred]
    have ht2 : (nI tn).toNatClampNeg = tn := nI_clamp (by omega)
    have hx : (100 : Int32) * nI tn + j (y + 2) tn = nI (100 * tn + u + (m - (q + 1))) := by
      rw [h1, show (100 : Int32) * nI tn = nI (100 * tn) from pk_mul 100 tn, nI_add, Nat.add_assoc]
    have e8 : (8 : Int32) * nI q = nI (8 * q) := pk_mul 8 q
    refine sX10_put_97 y _ w _ ⟨fun hlt => absurd hlt (nI_pos (by omega)), fun _ => ?_⟩
    rw [e0, e1, ht2, hx, hZ0.len, hZ1.len, e8]
    refine ⟨hO, hZ1.Y, vp_in_nI (by omega) (by omega), hZ0.Y, vp_in_nI (by omega) (by omega), fun i7 e7 i8 e8 x9 e9 => ?_⟩
    have e7 : i7 = o_up j (y + 1) (100 * tn + u + (m - (q + 1))) (tx_by w q) := by
      rw [e7, nI_clamp (by omega)]
      exact congrArg _ (tx_chr (tx_by_in w q))
    rw [e9, nI_m]
    refine ih (by omega) i8 ⟨?_, fun k hk => ?_, fun b k hb hk => ?_⟩
    · rw [e8, o_up_s, e7, o_up_a (by omega), h1, nI_1]
      congr 1
      omega
    · rw [e8, o_up_a (by omega), e7]
      by_cases e : k = m - (q + 1)
      · subst e
        rw [o_up_s]
        congr 1
        omega
      · rw [o_up_k (by omega)]
        exact h3 k (by omega)
    · have e9 : i8 b k = i7 b k := by
        rw [e8]
        by_cases e : b = y + 2
        · rw [o_up_k (fun z => hb ⟨e, z⟩)]
        · rw [o_up_a e]
      rw [e9, e7]
      by_cases e : b = y + 1
      · rw [o_up_k (fun z => hk ⟨e, by omega, by omega⟩)]
        exact h4 b k hb hk
      · rw [o_up_a e]
        exact h4 b k hb hk
/-- the reference's put -/
theorem m_put {G : o_G} {d : Nat} {i : o_I} {r : o_R} {post : Int32 → o_I → Prop} {y n0 n1 : Nat} {f0 f1 : Nat → Int32} {t w n : Int32} (hy : ly_mtx G r y) (hS : mt_S i y n0 n1 f0 f1)
    (h0 : ¬ (t = 0 ∧ tx_ok w n n0 100) → ¬ (t = 1 ∧ tx_ok w n n1 420) → post 0 i)
    (h1 : ∀ m j, t = 0 → n = nI m → m ≤ 4 → tx_ok w n n0 100 → mt_S j y (n0 + m) n1 (tx_put f0 n0 m w) f1 → (∀ b k, b ≠ y + 1 → b ≠ y + 2 → j b k = i b k) → post 1 j)
    (h2 : ∀ m j, t = 1 → n = nI m → m ≤ 4 → tx_ok w n n1 420 → mt_S j y n0 (n1 + m) f0 (tx_put f1 n1 m w) → (∀ b k, b ≠ y + 1 → b ≠ y + 2 → j b k = i b k) → post 1 j) : SpI G (d + 2) mX10_put [.ref y, .int t, .int w, .int n] post i r := by
  have hZ1 := hy.2.2.2.2
  have e1 := hy.2.2.1
  obtain ⟨⟨a1, a2, a3⟩, b1, b2, b3⟩ := hS
  have bad : ∀ {lo hi v : Int32} {k : Nat}, v < lo ∨ ¬ v ≤ hi → v = nI k → ¬ nI k < lo → nI k ≤ hi → False := by
    rintro lo hi v k (h | h) rfl ha hb
    · exact ha h
    · exact h hb
  refine sp_of 2 (by decide +kernel) (Nat.le_of_ble_eq_true rfl) rfl (sX10_put_0 y t w n (m_outside (fun ho => ⟨fun _ => o_ri (h0 ?_ ?_), fun z => absurd z (by decide)⟩) (fun ha hb => ⟨fun z => absurd rfl z, fun _ => m_outside (fun ho => ⟨fun _ => o_ri (h0 ?_ ?_), fun z => absurd z (by decide)⟩) (fun hc hd => ⟨fun z => absurd rfl z, fun _ => ?_⟩)⟩)))
  · rintro ⟨e, -⟩
    exact bad (k := 0) ho e (by decide) (by decide)
  · rintro ⟨e, -⟩
    exact bad (k := 1) ho e (by decide) (by decide)
  · rintro ⟨-, m, e, hm1, hm4, -⟩
    exact bad ho e (nI_nlt (b := 1) hm1 (by omega)) (nI_le (b := 4) hm4 (by decide))
  · rintro ⟨-, m, e, hm1, hm4, -⟩
    exact bad ho e (nI_nlt (b := 1) hm1 (by omega)) (nI_le (b := 4) hm4 (by decide))
  · have hn0 : ¬ n < 0 := fun z => hc (Int32.lt_trans z (by decide))
    obtain ⟨m, hm4, rfl⟩ := m_rng (n := 4) (N := 4) rfl (by decide) hn0 hd
    have hm1 : 1 ≤ m := by
      rcases Nat.eq_zero_or_pos m with rfl | h
      · exact absurd (by decide) hc
      · exact h
    -- the common part, for a text tn of u chars and room cap
    have main : ∀ tn u cap : Nat, tn ≤ 1 → t = nI tn → i (y + 2) tn = nI u → u ≤ cap → 100 * tn + cap ≤ 520 → (if t = 0 then (100 : Int32) else 420) = nI cap → (¬ tx_ok w (nI m) u cap → post 0 i) → (tx_ok w (nI m) u cap → ∀ j, mt_I y tn u m w i j m → post 1 j) →
        ∀ x9 : Int32, x9 = (if t = 0 then 100 else 420) → ((((i (r y 1) t.toNatClampNeg) + nI m) ≤ x9 → Ok G (d + 2) mX10_put (fun v j q => q = r ∧ ∃ x, v = some (.int x) ∧ post x j) 46 [some (.ref y), some (.int t), some (.int w), some (.int (nI m)), some (.int 0), none] [] i r) ∧ (¬ ((i (r y 1) t.toNatClampNeg) + nI m) ≤ x9 → (r = r ∧ ∃ x, (some (.int 0) : Option Value) = some (.int x) ∧ post x i))) := by
      intro tn u cap htn ht hu hucap hcap hif p0 p1 x9 hx9
      have ht2 : t.toNatClampNeg = tn := by rw [ht]; exact nI_clamp (by omega)
      rw [hx9, hif, e1, ht2, hu, nI_add, nI_leI (by omega) (by omega)]
      refine ⟨fun hle => ?_, fun hle => o_ri (p0 ?_)⟩
      · refine m_put1 (d := d) hm4 (fun hna => o_ri (p0 ?_)) (fun hall => ?_) m 0 (by omega) (fun n h => absurd h (Nat.not_lt_zero n))
        · rintro ⟨m', e, -, hm', -, hall⟩
          have : m = m' := (nI_eq (by omega) (by omega)).mp e
          subst this
          exact hna hall
        · rw [ht]
          refine m_put2 hy htn hm4 (by omega) (fun j hj => o_ri (p1 ⟨m, rfl, hm1, hm4, hle, hall⟩ j hj)) m (Nat.le_refl m) i ?_
          rw [Nat.sub_self]
          exact ⟨hu, fun k h => absurd h (Nat.not_lt_zero k), fun _ _ _ _ => rfl⟩
      · rintro ⟨m', e, -, hm', hle', -⟩
        have : m = m' := (nI_eq (by omega) (by omega)).mp e
        subst this
        exact hle hle'
    rcases m_two ha hb with ht | ht
    · refine ⟨hy.1, by rw [e1]; exact hZ1.Y, by rw [e1, hZ1.len, ht]; exact vp_in_nI (n := 0) (by decide) (by decide), ?_⟩
      refine main 0 n0 100 (by decide) ht a1 a2 (by decide) (by rw [if_pos ht]; rfl) (fun hk => h0 (fun q => hk q.2) (fun q => by rw [ht] at q; exact absurd q.1 (by decide))) (fun hk j hj => h1 m j ht rfl hm4 hk ?_ ?_)
      · obtain ⟨m', e, -, hm', hle', -⟩ := hk
        have : m = m' := (nI_eq (by omega) (by omega)).mp e
        subst this
        obtain ⟨j1, j2, j3⟩ := hj
        refine ⟨⟨j1, hle', fun k hk => ?_⟩, by rw [j3 _ _ (by omega) (by omega)]; exact b1, b2, fun k hk => by rw [j3 _ _ (by omega) (by omega)]; exact b3 k hk⟩
        unfold tx_put
        by_cases hlt : k < n0
        · rw [if_pos hlt, j3 _ _ (by omega) (by omega), a3 k hlt]
        · rw [if_neg hlt]
          have := j2 (k - n0) (by omega)
          rw [show 100 * 0 + n0 + (k - n0) = k by omega] at this
          exact this
      · exact fun b k hb1 hb2 => hj.2.2 b k (fun z => hb2 z.1) (fun z => hb1 z.1)
    · refine ⟨hy.1, by rw [e1]; exact hZ1.Y, by rw [e1, hZ1.len, ht]; exact vp_in_nI (n := 1) (by decide) (by decide), ?_⟩
      refine main 1 n1 420 (by decide) ht b1 b2 (by decide) (by rw [if_neg (by rw [ht]; decide)]; rfl) (fun hk => h0 (fun q => by rw [ht] at q; exact absurd q.1 (by decide)) (fun q => hk q.2)) (fun hk j hj => h2 m j ht rfl hm4 hk ?_ ?_)
      · obtain ⟨m', e, -, hm', hle', -⟩ := hk
        have : m = m' := (nI_eq (by omega) (by omega)).mp e
        subst this
        obtain ⟨j1, j2, j3⟩ := hj
        refine ⟨⟨by rw [j3 _ _ (by omega) (by omega)]; exact a1, a2, fun k hk => by rw [j3 _ _ (by omega) (by omega)]; exact a3 k hk⟩, j1, hle', fun k hk => ?_⟩
        unfold tx_put
        by_cases hlt : k < n1
        · rw [if_pos hlt, j3 _ _ (by omega) (by omega), b3 k hlt]
        · rw [if_neg hlt]
          have := j2 (k - n1) (by omega)
          rw [show 100 * 1 + n1 + (k - n1) = 100 + k by omega] at this
          exact this
      · exact fun b k hb1 hb2 => hj.2.2 b k (fun z => hb2 z.1) (fun z => hb1 z.1)

/-! THE WHOLE WALK: both objects are made, then the loop -/
theorem n_r_s {q : n_R} {a k v : Nat} (h : q a k = some v) : n_r q a k = v := by
  unfold n_r
  rw [h]
  rfl
section MADE
variable {l : Launch} {D : va_G} {kA : Nat → ClassId} {x b L : Nat} {xs : Nat → Int32} {ad : Nat → Nat} {q : n_R}
theorem g_O {k ci : Nat} (hk : k < 422) (h : n_sh k = (0, ci)) : o_O (g_G l D kA x b L xs ad) (x + k) ci := ⟨n_in (by omega) (by omega), by show n_S x (x + k) = _; rw [n_S_at, h]⟩
theorem g_Z {k t n : Nat} (hk : k < 422) (h : n_sh k = (t, n)) : o_Z (g_G l D kA x b L xs ad) (x + k) t n := ⟨n_in (by omega) (by omega), by show n_S x (x + k) = _; rw [n_S_at, h]⟩
theorem g_rd {k : Nat} (hk : k + 3 < 422) (h0 : n_sh k = (0, 5)) (h1 : n_sh (k + 1) = (1, 16)) (h2 : n_sh (k + 2) = (1, 16)) (h3 : n_sh (k + 3) = (1, 19)) (h : nl_rd q (x + k)) : ly_rd (g_G l D kA x b L xs ad) (n_r q) (x + k) := ⟨g_O (by omega) h0, n_r_s h.1, g_Z (k := k + 1) (by omega) h1, n_r_s h.2.1, g_Z (k := k + 2) (by omega) h2, n_r_s h.2.2, g_Z (k := k + 3) (by omega) h3⟩
theorem g_st {k : Nat} (hk : k + 2 < 422) (h0 : n_sh k = (0, 7)) (h1 : n_sh (k + 1) = (1, 8)) (h2 : n_sh (k + 2) = (1, 8)) (h : nl_st q (x + k)) : ly_st (g_G l D kA x b L xs ad) (n_r q) (x + k) := ⟨g_O (by omega) h0, n_r_s h.1, g_Z (k := k + 1) (by omega) h1, n_r_s h.2, g_Z (k := k + 2) (by omega) h2⟩
theorem g_sm {k : Nat} (hk : k + 35 < 422) (h0 : n_sh k = (0, 6)) (h1 : n_sh (k + 1) = (2, 8)) (h2 : n_sh (k + 2) = (1, 48)) (h3 : n_sh (k + 3) = (4, 8)) (h4 : ∀ z, z < 8 → n_sh (k + 4 + 4 * z) = (0, 5) ∧ n_sh (k + 4 + 4 * z + 1) = (1, 16) ∧ n_sh (k + 4 + 4 * z + 2) = (1, 16) ∧ n_sh (k + 4 + 4 * z + 3) = (1, 19)) (h : nl_sm q (x + k)) : ly_sm (g_G l D kA x b L xs ad) (n_r q) (x + k) := by
  refine ⟨g_O (by omega) h0, n_r_s h.1.1, g_Z (k := k + 1) (by omega) h1, n_r_s h.1.2.1, g_Z (k := k + 2) (by omega) h2, n_r_s h.1.2.2, g_Z (k := k + 3) (by omega) h3, fun z hz => ⟨n_r_s (h.2 z hz).1, ?_⟩⟩
  have e : x + k + 4 + 4 * z = x + (k + 4 + 4 * z) := by omega
  have hr := (h.2 z hz).2
  rw [e] at hr ⊢
  exact g_rd (by omega) (h4 z hz).1 (h4 z hz).2.1 (h4 z hz).2.2.1 (h4 z hz).2.2.2 hr
theorem g_cl (h : nl_cl q x) : ly_cl (g_G l D kA x b L xs ad) (n_r q) x (x + 323) (x + 359) := by
  obtain ⟨⟨f0, f1, f2, f3, f4, f5, f6, f7, f8, f9⟩, ⟨t1, t2, t3, t4⟩, ⟨a1, a2⟩, hpi, ⟨j1, j2, j3⟩, tb, s1, s2⟩ := h
  have kA' : ∀ z, z < 17 → n_sh (9 + z) = (1, 20) := by decide +kernel
  have kS : ∀ z, z < 96 → n_sh (29 + 3 * z) = (0, 7) ∧ n_sh (29 + 3 * z + 1) = (1, 8) ∧ n_sh (29 + 3 * z + 2) = (1, 8) := by decide +kernel
  have kR : ∀ z, z < 8 → n_sh (323 + 4 + 4 * z) = (0, 5) ∧ n_sh (323 + 4 + 4 * z + 1) = (1, 16) ∧ n_sh (323 + 4 + 4 * z + 2) = (1, 16) ∧ n_sh (323 + 4 + 4 * z + 3) = (1, 19) := by decide +kernel
  have kQ : ∀ z, z < 8 → n_sh (359 + 4 + 4 * z) = (0, 5) ∧ n_sh (359 + 4 + 4 * z + 1) = (1, 16) ∧ n_sh (359 + 4 + 4 * z + 2) = (1, 16) ∧ n_sh (359 + 4 + 4 * z + 3) = (1, 19) := by decide +kernel
  have hx0 : o_O (g_G l D kA x b L xs ad) x 0 := g_O (k := 0) (by decide) (by decide +kernel)
  have T1 : ly_text (g_G l D kA x b L xs ad) (n_r q) (x + 1) 100 := ⟨g_O (by decide) (by decide +kernel), n_r_s t1, g_Z (k := 2) (by decide) (by decide +kernel)⟩
  have T2 : ly_text (g_G l D kA x b L xs ad) (n_r q) (x + 3) 420 := ⟨g_O (by decide) (by decide +kernel), n_r_s t2, g_Z (k := 4) (by decide) (by decide +kernel)⟩
  have S1 : ly_sm (g_G l D kA x b L xs ad) (n_r q) (x + 323) := g_sm (by decide) (by decide +kernel) (by decide +kernel) (by decide +kernel) (by decide +kernel) kR s1
  have S2 : ly_sm (g_G l D kA x b L xs ad) (n_r q) (x + 359) := g_sm (by decide) (by decide +kernel) (by decide +kernel) (by decide +kernel) (by decide +kernel) kQ s2
  have P : ly_pi (g_G l D kA x b L xs ad) (n_r q) (x + 26) := by
    refine ⟨g_O (by decide) (by decide +kernel), n_r_s hpi.1.1, g_Z (k := 27) (by decide) (by decide +kernel), n_r_s hpi.1.2, g_Z (k := 28) (by decide) (by decide +kernel), fun p hp => ⟨n_r_s (hpi.2.1 p hp).1, n_r_s (hpi.2.1 p hp).2, ?_, ?_⟩⟩
    · have := hpi.2.2 (2 * p) (by omega)
      rw [show x + 26 + 3 + 3 * (2 * p) = x + (29 + 3 * (2 * p)) by omega] at this
      rw [show x + 26 + 3 + 6 * p = x + (29 + 3 * (2 * p)) by omega]
      exact g_st (by omega) (kS (2 * p) (by omega)).1 (kS (2 * p) (by omega)).2.1 (kS (2 * p) (by omega)).2.2 this
    · have := hpi.2.2 (2 * p + 1) (by omega)
      rw [show x + 26 + 3 + 3 * (2 * p + 1) = x + (29 + 3 * (2 * p + 1)) by omega] at this
      rw [show x + 26 + 6 + 6 * p = x + (29 + 3 * (2 * p + 1)) by omega]
      exact g_st (by omega) (kS (2 * p + 1) (by omega)).1 (kS (2 * p + 1) (by omega)).2.1 (kS (2 * p + 1) (by omega)).2.2 this
  refine ⟨⟨hx0, n_r_s f0, n_r_s f1, T1, T2⟩, ⟨n_r_s f2, g_O (by decide) (by decide +kernel), n_r_s t3, T1⟩, ⟨n_r_s f3, g_O (by decide) (by decide +kernel), n_r_s t4, T2⟩, ⟨n_r_s f4, g_O (by decide) (by decide +kernel), n_r_s a1, g_Z (k := 8) (by decide) (by decide +kernel), fun z hz => ⟨n_r_s (a2 z hz), ?_⟩⟩, ⟨hx0, n_r_s f5, P, n_r_s f6, ⟨g_O (by decide) (by decide +kernel), n_r_s j1, g_Z (k := 318) (by decide) (by decide +kernel), n_r_s j2, g_Z (k := 319) (by decide) (by decide +kernel), n_r_s j3, g_Z (k := 320) (by decide) (by decide +kernel)⟩, n_r_s f7, ⟨g_O (by decide) (by decide +kernel), n_r_s tb, g_Z (k := 322) (by decide) (by decide +kernel)⟩, n_r_s f8, S1, by omega, by omega, by omega⟩, n_r_s f9, S2, Or.inl ⟨rfl, rfl⟩⟩
  rw [show x + 7 + 2 + z = x + (9 + z) by omega]
  exact g_Z (by omega) (kA' z hz)
/-- the reference's fields -/
def nl_m (q : n_R) (y : Nat) : Prop := ∀ k o t n, m_tab k = (o, t, n) → o ≠ 0 → q y k = some (y + o)
theorem m_tab_ok : ∀ k, k < 41 → (m_tab k).1 ≠ 0 → (m_tab k).1 < 27 ∧ n_sh (395 + (m_tab k).1) = ((m_tab k).2.1, (m_tab k).2.2) := by decide +kernel
theorem m_tab_hi {k : Nat} (h : 41 ≤ k) : (m_tab k).1 = 0 := by
  have e : k = (k - 41) + 41 := by omega
  rw [e]
  rfl
theorem g_m (h : nl_m q (x + 395)) : ly_m (g_G l D kA x b L xs ad) (n_r q) (x + 395) := by
  refine ⟨g_O (by decide) (by decide +kernel), fun k o t n e ho => ⟨n_r_s (h k o t n e ho), ?_⟩⟩
  by_cases hk : k < 41
  · have := m_tab_ok k hk (by rw [e]; exact ho)
    rw [e] at this
    rw [show x + 395 + o = x + (395 + o) by omega]
    have h27 : o < 27 := this.1
    exact g_Z (by omega) this.2
  · have := m_tab_hi (Nat.not_lt.mp hk)
    rw [e] at this
    exact absurd this ho
end MADE
/-- every reference is there -/
theorem rf_0 : ∀ k, k < 10 → o_rf 0 k = true → k = 0 ∨ k = 1 ∨ k = 2 ∨ k = 3 ∨ k = 4 ∨ k = 5 ∨ k = 6 ∨ k = 7 ∨ k = 8 ∨ k = 9 := by decide +kernel
theorem rf_1 : ∀ k, k < 8 → o_rf 1 k = true → k = 0 := by decide +kernel
theorem rf_2 : ∀ k, k < 7 → o_rf 2 k = true → k = 0 ∨ k = 1 ∨ k = 3 := by decide +kernel
theorem rf_3 : ∀ k, k < 3 → o_rf 3 k = true → k = 0 := by decide +kernel
theorem rf_4 : ∀ k, k < 2 → o_rf 4 k = true → k = 0 ∨ k = 1 := by decide +kernel
theorem rf_5 : ∀ k, k < 10 → o_rf 5 k = true → k = 0 ∨ k = 1 ∨ k = 8 := by decide +kernel
theorem rf_6 : ∀ k, k < 6 → o_rf 6 k = true → k = 0 ∨ k = 2 ∨ k = 4 := by decide +kernel
theorem rf_7 : ∀ k, k < 3 → o_rf 7 k = true → k = 0 ∨ k = 1 := by decide +kernel
theorem rf_8 : ∀ k, k < 2 → o_rf 8 k = true → k = 0 := by decide +kernel
theorem rf_9 : ∀ k, k < 2 → o_rf 9 k = true → k = 0 := by decide +kernel
theorem rf_10 : ∀ k, k < 41 → o_rf 10 k = true → (m_tab k).1 ≠ 0 := by decide +kernel
theorem sh_all : ∀ k, k < 422 → (n_sh k).1 = 1 ∨ (n_sh k).1 = 2 ∨ k = 0 ∨ k = 1 ∨ k = 3 ∨ k = 5 ∨ k = 6 ∨ k = 7 ∨ k = 8 ∨ k = 26 ∨ k = 27 ∨ k = 28 ∨ (29 ≤ k ∧ k < 317 ∧ (k - 29) % 3 = 0) ∨ k = 317 ∨ k = 321 ∨ k = 323 ∨ k = 326 ∨ (327 ≤ k ∧ k < 359 ∧ (k - 327) % 4 = 0) ∨ k = 359 ∨ k = 362 ∨ (363 ≤ k ∧ k < 395 ∧ (k - 363) % 4 = 0) ∨ k = 395 := by decide +kernel
theorem full_O {x k ci N : Nat} {q : n_R} (h : n_sh k = (0, ci)) (hN : (o_C ci).2.2 = N) (hr : ∀ m, m < N → o_rf ci m = true → ∃ y, q (x + k) m = some y) : n_full (n_S x) q (x + k) := by
  refine ⟨fun _ m hm hrf => ?_, fun h3 => ?_⟩
  · rw [n_S_at, h] at hm hrf
    exact hr m (by rw [← hN]; exact hm) hrf
  · rw [n_S_at, h] at h3
    exact absurd h3 (show ¬ 3 ≤ 0 by decide)
theorem full_A {x k t N : Nat} {q : n_R} (h : n_sh k = (t + 3, N)) (hr : ∀ m, m < N → ∃ y, q (x + k) m = some y) : n_full (n_S x) q (x + k) := by
  refine ⟨fun h0 => ?_, fun _ m hm => ?_⟩
  · rw [n_S_at, h] at h0
    cases h0
  · rw [n_S_at, h] at hm
    exact hr m hm
theorem g_full {x : Nat} {q : n_R} (h : nl_cl q x) (hM : nl_m q (x + 395)) : ∀ a, x ≤ a → a < x + 422 → n_full (n_S x) q a := by
  intro a ha1 ha2
  obtain ⟨⟨f0, f1, f2, f3, f4, f5, f6, f7, f8, f9⟩, ⟨t1, t2, t3, t4⟩, ⟨a1, a2⟩, hpi, ⟨j1, j2, j3⟩, tb, s1, s2⟩ := h
  obtain ⟨k, rfl⟩ : ∃ k, a = x + k := ⟨a - x, by omega⟩
  have kS : ∀ z, z < 96 → n_sh (29 + 3 * z) = (0, 7) := by decide +kernel
  have kR : ∀ z, z < 8 → n_sh (323 + 4 + 4 * z) = (0, 5) := by decide +kernel
  have kQ : ∀ z, z < 8 → n_sh (359 + 4 + 4 * z) = (0, 5) := by decide +kernel
  have rd : ∀ {c : Nat}, n_sh c = (0, 5) → nl_rd q (x + c) → n_full (n_S x) q (x + c) := fun {c} e hr => full_O (N := 10) e rfl (fun m hm hrf => by
    rcases rf_5 m hm hrf with rfl | rfl | rfl
    · exact ⟨_, hr.1⟩
    · exact ⟨_, hr.2.1⟩
    · exact ⟨_, hr.2.2⟩)
  have smp : ∀ {c : Nat}, n_sh c = (0, 6) → nl_sm q (x + c) → n_full (n_S x) q (x + c) := fun {c} e hr => full_O (N := 6) e rfl (fun m hm hrf => by
    rcases rf_6 m hm hrf with rfl | rfl | rfl
    · exact ⟨_, hr.1.1⟩
    · exact ⟨_, hr.1.2.1⟩
    · exact ⟨_, hr.1.2.2⟩)
  rcases sh_all k (by omega) with e | e | rfl | rfl | rfl | rfl | rfl | rfl | rfl | rfl | rfl | rfl | ⟨e1, e2, e3⟩ | rfl | rfl | rfl | rfl | ⟨e1, e2, e3⟩ | rfl | rfl | ⟨e1, e2, e3⟩ | rfl
  · refine ⟨fun h0 => ?_, fun h3 => ?_⟩
    · rw [n_S_at, e] at h0
      cases h0
    · rw [n_S_at, e] at h3
      exact absurd h3 (by decide)
  · refine ⟨fun h0 => ?_, fun h3 => ?_⟩
    · rw [n_S_at, e] at h0
      cases h0
    · rw [n_S_at, e] at h3
      exact absurd h3 (by decide)
  · refine full_O (N := 10) (ci := 0) (by decide +kernel) rfl (fun m hm hrf => ?_)
    rcases rf_0 m hm hrf with rfl | rfl | rfl | rfl | rfl | rfl | rfl | rfl | rfl | rfl
    · exact ⟨_, f0⟩
    · exact ⟨_, f1⟩
    · exact ⟨_, f2⟩
    · exact ⟨_, f3⟩
    · exact ⟨_, f4⟩
    · exact ⟨_, f5⟩
    · exact ⟨_, f6⟩
    · exact ⟨_, f7⟩
    · exact ⟨_, f8⟩
    · exact ⟨_, f9⟩
  · refine full_O (N := 2) (ci := 9) (by decide +kernel) rfl (fun m hm hrf => ?_)
    rw [rf_9 m hm hrf]
    exact ⟨_, t1⟩
  · refine full_O (N := 2) (ci := 9) (by decide +kernel) rfl (fun m hm hrf => ?_)
    rw [rf_9 m hm hrf]
    exact ⟨_, t2⟩
  · refine full_O (N := 3) (ci := 3) (by decide +kernel) rfl (fun m hm hrf => ?_)
    rw [rf_3 m hm hrf]
    exact ⟨_, t3⟩
  · refine full_O (N := 3) (ci := 3) (by decide +kernel) rfl (fun m hm hrf => ?_)
    rw [rf_3 m hm hrf]
    exact ⟨_, t4⟩
  · refine full_O (N := 8) (ci := 1) (by decide +kernel) rfl (fun m hm hrf => ?_)
    rw [rf_1 m hm hrf]
    exact ⟨_, a1⟩
  · exact full_A (t := 0) (N := 17) (by decide +kernel) (fun m hm => ⟨_, a2 m hm⟩)
  · refine full_O (N := 2) (ci := 4) (by decide +kernel) rfl (fun m hm hrf => ?_)
    rcases rf_4 m hm hrf with rfl | rfl
    · exact ⟨_, hpi.1.1⟩
    · exact ⟨_, hpi.1.2⟩
  · exact full_A (t := 2) (N := 48) (by decide +kernel) (fun m hm => ⟨_, (hpi.2.1 m hm).1⟩)
  · exact full_A (t := 2) (N := 48) (by decide +kernel) (fun m hm => ⟨_, (hpi.2.1 m hm).2⟩)
  · have ez : k = 29 + 3 * ((k - 29) / 3) := by omega
    have hz : (k - 29) / 3 < 96 := by omega
    have hs := hpi.2.2 _ hz
    have hk := kS _ hz
    rw [← ez] at hk
    rw [show x + 26 + 3 + 3 * ((k - 29) / 3) = x + k by omega] at hs
    refine full_O (N := 3) hk rfl (fun m hm hrf => ?_)
    rcases rf_7 m hm hrf with rfl | rfl
    · exact ⟨_, hs.1⟩
    · exact ⟨_, hs.2⟩
  · refine full_O (N := 7) (ci := 2) (by decide +kernel) rfl (fun m hm hrf => ?_)
    rcases rf_2 m hm hrf with rfl | rfl | rfl
    · exact ⟨_, j1⟩
    · exact ⟨_, j2⟩
    · exact ⟨_, j3⟩
  · refine full_O (N := 2) (ci := 8) (by decide +kernel) rfl (fun m hm hrf => ?_)
    rw [rf_8 m hm hrf]
    exact ⟨_, tb⟩
  · exact smp (by decide +kernel) s1
  · exact full_A (t := 1) (N := 8) (by decide +kernel) (fun m hm => ⟨_, (s1.2 m hm).1⟩)
  · have ez : k = 323 + 4 + 4 * ((k - 327) / 4) := by omega
    have hz : (k - 327) / 4 < 8 := by omega
    have hs := (s1.2 _ hz).2
    have hk := kR _ hz
    rw [← ez] at hk
    rw [show x + 323 + 4 + 4 * ((k - 327) / 4) = x + k by omega] at hs
    exact rd hk hs
  · exact smp (by decide +kernel) s2
  · exact full_A (t := 1) (N := 8) (by decide +kernel) (fun m hm => ⟨_, (s2.2 m hm).1⟩)
  · have ez : k = 359 + 4 + 4 * ((k - 363) / 4) := by omega
    have hz : (k - 363) / 4 < 8 := by omega
    have hs := (s2.2 _ hz).2
    have hk := kQ _ hz
    rw [← ez] at hk
    rw [show x + 359 + 4 + 4 * ((k - 363) / 4) = x + k by omega] at hs
    exact rd hk hs
  · refine full_O (N := 41) (ci := 10) (by decide +kernel) rfl (fun m hm hrf => ?_)
    exact ⟨_, hM m (m_tab m).1 (m_tab m).2.1 (m_tab m).2.2 rfl (rf_10 m hm hrf)⟩

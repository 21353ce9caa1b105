/-! THE REFERENCE'S CELLS, and its measure -/
/-- field number: place behind the object, kind, length (place 0: no array) -/
def m_tab (k : Nat) : Nat × Nat × Nat := match k with
  | 0 => (1, 2, 520) | 1 => (2, 1, 2) | 3 => (3, 1, 48) | 5 => (4, 2, 8) | 7 => (5, 1, 8) | 8 => (6, 1, 128) | 9 => (7, 1, 128)
  | 10 => (8, 1, 8) | 11 => (9, 1, 8) | 12 => (10, 1, 8) | 13 => (11, 1, 8) | 14 => (12, 1, 8) | 15 => (13, 1, 8) | 16 => (14, 1, 320)
  | 17 => (15, 1, 16) | 18 => (16, 1, 16) | 19 => (17, 1, 340) | 21 => (18, 1, 128) | 22 => (19, 1, 128) | 23 => (20, 1, 128)
  | 25 => (21, 1, 128) | 26 => (22, 1, 128) | 27 => (23, 1, 128) | 32 => (24, 1, 3) | 33 => (25, 1, 104) | 34 => (26, 1, 6)
  | _ => (0, 0, 0)
def ly_m (G : o_G) (r : o_R) (y : Nat) : Prop := o_O G y 10 ∧ ∀ k o t n, m_tab k = (o, t, n) → o ≠ 0 → r y k = y + o ∧ o_Z G (y + o) t n
theorem ly_m.tx {G : o_G} {r : o_R} {y : Nat} (h : ly_m G r y) : ly_mtx G r y := ⟨h.1, (h.2 0 1 2 520 rfl (by decide)).1, (h.2 1 2 1 2 rfl (by decide)).1, (h.2 0 1 2 520 rfl (by decide)).2, (h.2 1 2 1 2 rfl (by decide)).2⟩
/-- cells of the reference's table: rows below a, and in row a the places below q -/
def mm_I (j : o_I) (y : Nat) (c : Nat → Nat → Nat) (far a q : Nat) : Prop := ∀ a' q', q' ≤ far → (a' < a ∨ (a' = a ∧ q' < q)) → j (y + 17) (20 * a' + q') = nI (dp c a' q')
theorem m_measure1 {G : o_G} {d : Nat} {i : o_I} {r : o_R} {P : o_P} {y n s len far : Nat} (hm : ly_m G r y) (hn : n ≤ 16) (hl48 : len ≤ 48) (hsl : s < len) (hfar : far = min (len - s) 19) {c : Nat → Nat → Nat} (hc : c = dp_c (i (y + 15)) (i (y + 3)) s)
    (h : ∀ j, (∀ b k, b ≠ y + 17 → j b k = i b k) → mm_I j y c far (n + 1) 0 → P (some (.int (nI far))) j r) :
    ∀ m a j, a + m = n + 1 → (∀ b k, b ≠ y + 17 → j b k = i b k) → mm_I j y c far a 0 → Ok G (d + 1) mX10_measure P 26 [some (.ref y), some (.int (nI n)), some (.int (nI s)), some (.int (nI far)), some (.int (nI a)), none, none] [] j r := by
  obtain ⟨eD, ZD⟩ := hm.2 19 17 1 340 rfl (by decide)
  obtain ⟨eR, ZR⟩ := hm.2 17 15 1 16 rfl (by decide)
  obtain ⟨eB, ZB⟩ := hm.2 3 3 1 48 rfl (by decide)
  intro m
  induction m with
  | zero =>
    intro a j ha hj hI
    refine sX10_measure_26 y _ _ _ _ ⟨fun _ => h j hj ?_, fun hn' => absurd (nI_lt (by omega) (by omega)) hn'⟩
    rw [show n + 1 = a by omega]
    exact hI
  | succ m ih =>
    intro a j ha hj hI
    refine sX10_measure_26 y _ _ _ _ ⟨fun hlt => absurd hlt (nI_nlt (by omega) (by omega)), fun _ => ?_⟩
    -- the row's places
    have inner : ∀ m2 q j, q + m2 = far + 1 → (∀ b k, b ≠ y + 17 → j b k = i b k) → mm_I j y c far a q → Ok G (d + 1) mX10_measure P 35 [some (.ref y), some (.int (nI n)), some (.int (nI s)), some (.int (nI far)), some (.int (nI a)), some (.int (nI q)), none] [] j r := by
      intro m2
      induction m2 with
      | zero =>
        intro q j hq hj hI
        refine sX10_measure_35 y _ _ _ _ _ ⟨fun _ x hx => ?_, fun hn' => absurd (nI_lt (by omega) (by omega)) hn'⟩
        rw [hx, nI_1]
        exact ih (a + 1) j (by omega) hj (fun a' q' h1 h2 => hI a' q' h1 (by omega))
      | succ m2 ih2 =>
        intro q j hq hj hI
        have hrow : j (y + 15) = i (y + 15) := funext (fun k => hj _ _ (by omega))
        have hbas : j (y + 3) = i (y + 3) := funext (fun k => hj _ _ (by omega))
        have e20 : (20 : Int32) * nI a = nI (20 * a) := pk_mul 20 a
        refine sX10_measure_35 y _ _ _ _ _ ⟨fun hlt => absurd hlt (nI_nlt (by omega) (by omega)), fun _ => ?_⟩
        rw [eD, eR, eB, ZD.len, ZR.len, ZB.len, hrow, hbas, e20, nI_add, nI_add, nI_clamp (n := 20 * a + q) (by omega)]
        have hza : nI a = 0 ↔ a = 0 := nI_eq (b := 0) (by omega) (by decide)
        have hzq : nI q = 0 ↔ q = 0 := nI_eq (b := 0) (by omega) (by decide)
        have hla : nI a ≤ 0 ↔ a ≤ 0 := nI_leI (b := 0) (by omega) (by decide)
        have hlq : nI q ≤ 0 ↔ q ≤ 0 := nI_leI (b := 0) (by omega) (by decide)
        have s1 : ∀ h0 : 0 < a, nI (20 * a) - 20 = nI (20 * (a - 1)) := fun h0 => by
          rw [show (20 : Int32) = nI 20 from rfl, pk_sub (by omega)]
          congr 1
          omega
        have up : 0 < a → j (y + 17) (20 * (a - 1) + q) = nI (dp c (a - 1) q) := fun h0 => hI (a - 1) q (by omega) (by omega)
        have dg : 0 < a → 0 < q → j (y + 17) (20 * (a - 1) + q - 1) = nI (dp c (a - 1) (q - 1)) := fun h0 h1 => by
          rw [show 20 * (a - 1) + q - 1 = 20 * (a - 1) + (q - 1) by omega]
          exact hI (a - 1) (q - 1) (by omega) (by omega)
        have lf : 0 < q → j (y + 17) (20 * a + q - 1) = nI (dp c a (q - 1)) := fun h1 => by
          rw [show 20 * a + q - 1 = 20 * a + (q - 1) by omega]
          exact hI a (q - 1) (by omega) (by omega)
        have hc1 : ∀ a b, c a b ≤ 1 := fun a b => by rw [hc]; exact dp_c1 _ _ _ _ _
        have hb := dp_hi c hc1
        have nmin : ∀ u v : Nat, u < 2 ^ 31 → v < 2 ^ 31 → (if nI u ≤ nI v then nI u else nI v) = nI (min u v) := fun u v hu hv => by
          by_cases h : u ≤ v
          · rw [if_pos ((nI_leI hu hv).mpr h), Nat.min_eq_left h]
          · rw [if_neg (fun z => h ((nI_leI hu hv).mp z)), Nat.min_eq_right (by omega)]
        refine ⟨⟨fun ha0 => ⟨fun hq0 => ?_, fun _ => trivial⟩, fun _ => trivial⟩, fun x13 e13 => ⟨⟨fun _ => trivial, fun ha0 => ?_⟩, fun x19 e19 => ⟨⟨fun _ => trivial, fun hq0 => ?_⟩, fun x25 e25 => ⟨hm.1, ZD.Y, vp_in_nI (by omega) (by decide), fun i29 e29 x30 e30 => ?_⟩⟩⟩⟩
        · have h0 : 0 < a := Nat.pos_of_ne_zero (fun z => ha0 (hza.mpr z))
          have h1 : 0 < q := Nat.pos_of_ne_zero (fun z => hq0 (hzq.mpr z))
          rw [s1 h0, nI_add, nI_m1 (by omega), nI_m1 (by omega), nI_m1 (by omega)]
          exact ⟨hm.1, ZD.Y, vp_in_nI (by omega) (by decide), ZR.Y, vp_in_nI (by omega) (by decide), ZB.Y, vp_in_nI (by omega) (by decide), trivial⟩
        · have h0 : 0 < a := by
            rw [hla] at ha0
            omega
          rw [s1 h0, nI_add]
          exact ⟨hm.1, ZD.Y, vp_in_nI (by omega) (by decide), trivial⟩
        · have h1 : 0 < q := by
            rw [hlq] at hq0
            omega
          rw [nI_m1 (by omega)]
          exact ⟨hm.1, ZD.Y, vp_in_nI (by omega) (by decide), trivial⟩
        · have val : x25 = nI (dp c a q) := by
            by_cases h0 : a = 0
            · have v13 : x13 = nI q := by rw [e13, if_pos (hza.mpr h0)]
              have v19 : x19 = nI q := by rw [e19, if_pos (hla.mpr (by omega)), v13]
              rw [v19] at e25
              by_cases h1 : q = 0
              · rw [e25, if_pos (hlq.mpr (by omega)), h0, dp_0]
              · rw [if_neg (fun z => h1 (by have := hlq.mp z; omega)), nI_m1 (by omega), nI_clamp (by omega), lf (by omega), nI_1, h0, dp_0, nmin _ _ (by omega) (by omega)] at e25
                rw [e25, h0, dp_0]
                congr 1
                omega
            · rw [if_neg (fun z => h0 (by have := hla.mp z; omega)), s1 (by omega), nI_add, nI_clamp (n := 20 * (a - 1) + q) (by omega), up (by omega), nI_1] at e19
              have b2 := hb (a - 1) q
              by_cases h1 : q = 0
              · have v13 : x13 = nI a := by rw [e13, if_neg (fun z => h0 (hza.mp z)), if_pos (hzq.mpr h1)]
                rw [v13, nmin _ _ (by omega) (by omega)] at e19
                rw [e25, if_pos (hlq.mpr (by omega)), e19, h1, dp_z, dp_z]
                congr 1
                omega
              · have hd : (if i (y + 15) (a - 1) = i (y + 3) (s + q - 1) then nI (dp c (a - 1) (q - 1)) + 0 else nI (dp c (a - 1) (q - 1)) + 1) = nI (dp c (a - 1) (q - 1) + c (a - 1) (q - 1)) := by
                  rw [hc]
                  show _ = nI (_ + dp_c _ _ _ _ _)
                  rw [dp_c, show s + (q - 1) = s + q - 1 by omega]
                  split
                  · rw [show (0 : Int32) = nI 0 from rfl, nI_add]
                  · rw [nI_1]
                have b1 := hb (a - 1) (q - 1)
                have b3 := hb a (q - 1)
                have b4 := hc1 (a - 1) (q - 1)
                have v13 : x13 = nI (dp c (a - 1) (q - 1) + c (a - 1) (q - 1)) := by
                  rw [e13, if_neg (fun z => h0 (hza.mp z)), if_neg (fun z => h1 (hzq.mp z)), s1 (by omega), nI_add, nI_m1 (n := 20 * (a - 1) + q) (by omega), nI_clamp (n := 20 * (a - 1) + q - 1) (by omega), dg (by omega) (by omega), nI_m1 (n := a) (by omega), nI_clamp (n := a - 1) (by omega), nI_m1 (n := s + q) (by omega), nI_clamp (n := s + q - 1) (by omega)]
                  exact hd
                rw [v13, nmin _ _ (by omega) (by omega)] at e19
                rw [if_neg (fun z => h1 (by have := hlq.mp z; omega)), nI_m1 (n := 20 * a + q) (by omega), nI_clamp (n := 20 * a + q - 1) (by omega), lf (by omega), nI_1, e19, nmin _ _ (by omega) (by omega)] at e25
                have e := dp_s c (a - 1) (q - 1)
                rw [show a - 1 + 1 = a by omega, show q - 1 + 1 = q by omega] at e
                rw [e25]
                congr 1
                omega
          rw [val] at e29
          rw [e30, nI_1]
          refine ih2 (q + 1) i29 (by omega) (fun b k hb => by rw [e29, o_up_a hb]; exact hj b k hb) (fun a' q' h1 h2 => ?_)
          by_cases e : a' = a ∧ q' = q
          · rw [e29, e.1, e.2, o_up_s]
          · rw [e29, o_up_k (by omega)]
            exact hI a' q' h1 (by omega)
    exact inner (far + 1) 0 j (by omega) hj (fun a' q' h1 h2 => hI a' q' h1 (by omega))
theorem m_measure {G : o_G} {d : Nat} {i : o_I} {r : o_R} {post : Int32 → o_I → Prop} {y n s len : Nat} (hm : ly_m G r y) (hn : n ≤ 16) (hl : i y 2 = nI len) (hl48 : len ≤ 48) (hsl : s < len) {c : Nat → Nat → Nat} (hc : c = dp_c (i (y + 15)) (i (y + 3)) s)
    (h : ∀ j, (∀ b k, b ≠ y + 17 → j b k = i b k) → (∀ a q, a ≤ n → q ≤ min (len - s) 19 → j (y + 17) (20 * a + q) = nI (dp c a q)) → post (nI (min (len - s) 19)) j) : SpI G (d + 1) mX10_measure [.ref y, .int (nI n), .int (nI s)] post i r := by
  refine sp_of 4 (by decide +kernel) (Nat.le_of_ble_eq_true rfl) rfl (sX10_measure_0 y _ _ ⟨hm.1, fun x3 e3 => ?_⟩)
  have e : x3 = nI (min (len - s) 19) := by
    rw [e3, hl, pk_sub (by omega)]
    by_cases h19 : 19 ≤ len - s
    · rw [if_pos (show (19 : Int32) ≤ nI (len - s) from nI_le (a := 19) (b := len - s) h19 (by omega)), Nat.min_eq_right h19]
      rfl
    · rw [if_neg (show ¬ (19 : Int32) ≤ nI (len - s) from nI_ge (a := len - s) (b := 19) (by omega) (by decide)), Nat.min_eq_left (by omega)]
  rw [e]
  exact m_measure1 hm hn hl48 hsl rfl hc (fun j a1 a2 => o_ri (h j a1 (fun a q h1 h2 => a2 a q h2 (Or.inl (by omega))))) (n + 1) 0 i (by omega) (fun _ _ _ => rfl) (fun a' q' h1 h2 => by omega)

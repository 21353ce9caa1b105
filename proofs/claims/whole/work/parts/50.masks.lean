/-! THE REFERENCE: seen, links, length, letter -/
theorem m_seen {G : o_G} {d : Nat} {i : o_I} {r : o_R} {post : Int32 → o_I → Prop} {y : Nat} {OB OK : mo_O} {p b : Int32} (hm : ly_m G r y) (hD : ms_D i y OB OK) (h128 : OB.length ≤ 128) (h : post (nI (sn_f OB p b)) i) : SpI G (d + 1) mX10_seen [.ref y, .int p, .int b] post i r := by
  obtain ⟨e1, Z1⟩ := hm.2 21 18 1 128 rfl (by decide)
  obtain ⟨e2, Z2⟩ := hm.2 22 19 1 128 rfl (by decide)
  have hl : i y 20 = nI OB.length := by
    have := hD.1.1
    unfold mo_fm at this
    rw [List.length_map] at this
    exact this
  have hat : ∀ k o, OB[k]? = some o → i (y + 18) k = nI o.1 ∧ i (y + 19) k = nI o.2.1 := fun k o ho => by
    have := hD.1.2 k (o.1, fm 0 o.2.1, o.2.2) (by unfold mo_fm; rw [List.getElem?_map, ho]; rfl)
    exact ⟨this.1, this.2.1⟩
  have loop : ∀ (u : mo_O) k n, OB.drop k = u → k ≤ OB.length → n + sn_f u p b = sn_f OB p b → Ok G (d + 1) mX10_seen (fun v j q => q = r ∧ ∃ x, v = some (.int x) ∧ post x j) 5 [some (.ref y), some (.int p), some (.int b), some (.int (nI n)), some (.int (nI k))] [] i r := by
    intro u
    induction u with
    | nil =>
      intro k n hu hk hn
      have hkl : k = OB.length := by
        have := List.drop_eq_nil_iff.mp hu
        omega
      refine sX10_seen_5 y _ _ _ _ ⟨hm.1, fun _ => ?_, fun w => absurd (by rw [hl]; exact nI_le (by omega) (by omega)) w⟩
      have : n = sn_f OB p b := hn
      rw [this]
      exact o_ri h
    | cons o u ih =>
      intro k n hu hk hn
      obtain ⟨g1, g2, g3, g4⟩ := mo_drop hu
      obtain ⟨q1, q2⟩ := hat k o g2
      refine sX10_seen_5 y _ _ _ _ ⟨hm.1, fun w => absurd w (by rw [hl]; exact nI_ge g1 (by omega)), fun _ => ?_⟩
      rw [e1, e2, Z1.len, Z2.len, nI_clamp (n := k) (by omega), q1, q2]
      refine ⟨Z1.Y, vp_in_nI (by omega) (by decide), ⟨fun _ => trivial, fun _ => ⟨Z2.Y, vp_in_nI (by omega) (by decide), trivial⟩⟩, fun x9 e9 x10 e10 x11 e11 => ?_⟩
      rw [sn_f_cons] at hn
      have : x10 = nI (n + if nI o.1 = p ∧ nI o.2.1 = b then 1 else 0) := by
        rw [e10, e9, ← nI_add]
        congr 1
        by_cases a1 : nI o.1 = p
        · rw [if_pos a1]
          by_cases a2 : nI o.2.1 = b
          · rw [if_pos a2, if_pos ⟨a1, a2⟩]
            rfl
          · rw [if_neg a2, if_neg (fun q => a2 q.2)]
            rfl
        · rw [if_neg a1, if_neg (fun q => a1 q.1)]
          rfl
      rw [this, e11, nI_1]
      exact ih (k + 1) _ g3 (by omega) (by omega)
  exact sp_of 2 (by decide +kernel) (Nat.le_of_ble_eq_true rfl) rfl (sX10_seen_0 y p b (loop OB 0 0 rfl (Nat.zero_le _) (Nat.zero_add _)))
theorem mc_kd {g : Nat} (hv : lk_V g) : (if nI (mc g) = 0 then (0 : Int32) else if 10 ≤ nI (mc g) then 2 else 1) = nI (jd_kd g) := by
  have h1 := mc_lt hv
  have z0 : nI (mc g) = 0 ↔ mc g = 0 := nI_eq (b := 0) (by omega) (by decide)
  have z10 : (10 : Int32) ≤ nI (mc g) ↔ 10 ≤ mc g := nI_leI (a := 10) (by decide) (by omega)
  unfold jd_kd
  by_cases e : g < 4
  · have em := mc_small e
    by_cases e0 : g = 0
    · rw [if_pos (z0.mpr (by omega)), if_pos e0]
      rfl
    · rw [if_neg (fun q => e0 (by have := z0.mp q; omega)), if_neg (fun q => by have := z10.mp q; omega), if_neg e0, if_pos e]
      rfl
  · rw [if_neg (fun q => by have := z0.mp q; omega), if_pos (z10.mpr (by omega)), if_neg (by omega), if_neg e]
    rfl
theorem m_links2 {G : o_G} {d : Nat} {i : o_I} {r : o_R} {post : Int32 → o_I → Prop} {y : Nat} {OB OK : mo_O} {p b : Int32} (hm : ly_m G r y) (hD : ms_D i y OB OK) (h128 : OK.length ≤ 128) (hV : ∀ o ∈ OK, lk_V o.2.1) (h : post (nI (sl_f OK p b)) i) : SpI G (d + 1) mX10_links [.ref y, .int p, .int b] post i r := by
  obtain ⟨e1, Z1⟩ := hm.2 25 21 1 128 rfl (by decide)
  obtain ⟨e2, Z2⟩ := hm.2 26 22 1 128 rfl (by decide)
  have hl : i y 24 = nI OK.length := by
    have := hD.2.1
    unfold mo_fm at this
    rw [List.length_map] at this
    exact this
  have hat : ∀ k o, OK[k]? = some o → i (y + 21) k = nI o.1 ∧ i (y + 22) k = nI (mc o.2.1) := fun k o ho => by
    have := hD.2.2 k (o.1, fm 1 o.2.1, o.2.2) (by unfold mo_fm; rw [List.getElem?_map, ho]; rfl)
    exact ⟨this.1, this.2.1⟩
  have loop : ∀ (u : mo_O) k n, OK.drop k = u → k ≤ OK.length → n + sl_f u p b = sl_f OK p b → Ok G (d + 1) mX10_links (fun v j q => q = r ∧ ∃ x, v = some (.int x) ∧ post x j) 5 [some (.ref y), some (.int p), some (.int b), some (.int (nI n)), some (.int (nI k)), none] [] i r := by
    intro u
    induction u with
    | nil =>
      intro k n hu hk hn
      have hkl : k = OK.length := by
        have := List.drop_eq_nil_iff.mp hu
        omega
      refine sX10_links_5 y _ _ _ _ ⟨hm.1, fun _ => ?_, fun w => absurd (by rw [hl]; exact nI_le (by omega) (by omega)) w⟩
      have : n = sl_f OK p b := hn
      rw [this]
      exact o_ri h
    | cons o u ih =>
      intro k n hu hk hn
      obtain ⟨g1, g2, g3, g4⟩ := mo_drop hu
      obtain ⟨q1, q2⟩ := hat k o g2
      have hkd := mc_kd (hV o g4)
      refine sX10_links_5 y _ _ _ _ ⟨hm.1, fun w => absurd w (by rw [hl]; exact nI_ge g1 (by omega)), fun _ => ?_⟩
      rw [e1, e2, Z1.len, Z2.len, nI_clamp (n := k) (by omega), q1, q2]
      refine ⟨Z2.Y, vp_in_nI (by omega) (by decide), fun x5 e5 => ⟨Z1.Y, vp_in_nI (by omega) (by decide), fun x14 e14 x15 e15 x16 e16 => ?_⟩⟩
      rw [sl_f_cons] at hn
      have : x15 = nI (n + if nI o.1 = p ∧ nI (jd_kd o.2.1) = b then 1 else 0) := by
        rw [e15, e14, e5, ← nI_add]
        congr 1
        by_cases a1 : nI o.1 = p
        · rw [if_pos a1, ← hkd]
          by_cases c0 : nI (mc o.2.1) = 0
          · rw [if_pos c0, if_pos c0]
            by_cases a2 : (0 : Int32) = b
            · rw [if_pos a2, if_pos ⟨a1, a2⟩]
              rfl
            · rw [if_neg a2, if_neg (fun q => a2 q.2)]
              rfl
          · rw [if_neg c0, if_neg c0]
            by_cases c1 : (10 : Int32) ≤ nI (mc o.2.1)
            · rw [if_pos c1, if_pos c1]
              by_cases a2 : (2 : Int32) = b
              · rw [if_pos a2, if_pos ⟨a1, a2⟩]
                rfl
              · rw [if_neg a2, if_neg (fun q => a2 q.2)]
                rfl
            · rw [if_neg c1, if_neg c1]
              by_cases a2 : (1 : Int32) = b
              · rw [if_pos a2, if_pos ⟨a1, a2⟩]
                rfl
              · rw [if_neg a2, if_neg (fun q => a2 q.2)]
                rfl
        · rw [if_neg a1, if_neg (fun q => a1 q.1)]
          rfl
      rw [this, e16, nI_1]
      exact ih (k + 1) _ g3 (by omega) (by omega)
  exact sp_of 3 (by decide +kernel) (Nat.le_of_ble_eq_true rfl) rfl (sX10_links_0 y p b (loop OK 0 0 rfl (Nat.zero_le _) (Nat.zero_add _)))
/-- what length and letter leave as it was -/
def ml_F (y : Nat) (i j : o_I) : Prop := ∀ a k, ¬ (a = y ∧ 28 ≤ k ∧ k ≠ 37) → (a < y + 24 ∨ y + 26 < a) → j a k = i a k
/-- the text T is what write puts out: before the first call nothing -/
def mt_T (i : o_I) (y : Nat) (T : List Nat) : Prop := (i y 37 = 0 ∧ T = []) ∨ (i y 37 = 1 ∧ ∃ len OB OK nm f, ms_D i y OB OK ∧ sw_ok len OB OK ∧ mn_S i y nm len f ∧ T.length ≤ 2220 ∧ T = tw_h ++ tw_txt nm len f (fun p => mo_at p OB) (fun p => mo_at p OK) len)
theorem m_length {G : o_G} {d : Nat} {i : o_I} {r : o_R} {post : Int32 → o_I → Prop} {y : Nat} {T : List Nat} (hm : ly_m G r y) (hT : mt_T i y T) (h : ∀ j, ml_F y i j → post (nI T.length) j) : SpI G (d + 7) mX10_length [.ref y] post i r := by
  refine sp_of 0 (by decide +kernel) (Nat.le_of_ble_eq_true rfl) rfl (sX10_length_0 y ⟨hm.1, ?_⟩)
  rcases hT with ⟨h37, rfl⟩ | ⟨h37, len, OB, OK, nm, f, hD, hok, hN, hl, rfl⟩
  · refine m_write0 hm h37 (fun j S F => ?_)
    rw [S.1]
    exact o_ri (h j F)
  · refine m_write hm hD hok hN h37 hl (fun j S F => ?_)
    rw [S.1]
    exact o_ri (h j F)
theorem m_letter {G : o_G} {d : Nat} {i : o_I} {r : o_R} {post : Int32 → o_I → Prop} {y : Nat} {w : Int32} {T : List Nat} (hm : ly_m G r y) (hT : mt_T i y T) (h : ∀ j, ml_F y i j → post (wo_f T w) j) : SpI G (d + 7) mX10_letter [.ref y, .int w] post i r := by
  refine sp_of 0 (by decide +kernel) (Nat.le_of_ble_eq_true rfl) rfl (sX10_letter_0 y w ⟨hm.1, ?_⟩)
  rcases hT with ⟨h37, rfl⟩ | ⟨h37, len, OB, OK, nm, f, hD, hok, hN, hl, rfl⟩
  · refine m_write0 hm h37 (fun j S F => ?_)
    rw [S.2.2]
    exact o_ri (h j F)
  · refine m_write hm hD hok hN h37 hl (fun j S F => ?_)
    rw [S.2.2]
    exact o_ri (h j F)

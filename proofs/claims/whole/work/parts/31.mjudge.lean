/-! THE REFERENCE: seenMany .. penaltyOf, addAllele -/
abbrev mo_O : Type := List (Nat × Nat × Nat)
def mo_ok (O : mo_O) : Prop := O.length ≤ 128 ∧ ∀ o ∈ O, o.1 ≤ 47 ∧ o.2.1 ≤ 103 ∧ o.2.2 ≤ 93
/-- what was seen (lk 0: bases, 1: links) -/
def mo_D (i : o_I) (y lk : Nat) (O : mo_O) : Prop := i y (20 + 4 * lk) = nI O.length ∧ ∀ k o, O[k]? = some o → i (y + (18 + 3 * lk)) k = nI o.1 ∧ i (y + (19 + 3 * lk)) k = nI o.2.1 ∧ i (y + (20 + 3 * lk)) k = nI o.2.2
def mo_S (i : o_I) (y lk : Nat) (O : mo_O) : Prop := i y 28 = nI lk ∧ mo_D i y lk O
def mo_at (p : Nat) (O : mo_O) : jd_s := (O.filter (fun o => o.1 == p)).map (fun o => o.2)
theorem mo_at_cons (p : Nat) (o : Nat × Nat × Nat) (O : mo_O) : mo_at p (o :: O) = if o.1 = p then o.2 :: mo_at p O else mo_at p O := by
  unfold mo_at
  rw [List.filter_cons]
  by_cases h : o.1 = p
  · simp [h]
  · simp [h]
theorem mo_at_len (p : Nat) (O : mo_O) : (mo_at p O).length ≤ O.length := by
  unfold mo_at
  rw [List.length_map]
  exact List.length_filter_le _ _
theorem mo_at_mem {p : Nat} {O : mo_O} {q : Nat × Nat} (h : q ∈ mo_at p O) : (p, q) ∈ O := by
  obtain ⟨o, ho, rfl⟩ := List.mem_map.mp h
  obtain ⟨h1, h2⟩ := List.mem_filter.mp ho
  have : o.1 = p := by simpa using h2
  rw [← this]
  exact h1
theorem mo_drop {O : mo_O} {k : Nat} {o : Nat × Nat × Nat} {u : mo_O} (h : O.drop k = o :: u) : k < O.length ∧ O[k]? = some o ∧ O.drop (k + 1) = u ∧ o ∈ O := by
  have hk : k < O.length := by
    have := congrArg List.length h
    rw [List.length_drop] at this
    simp at this
    omega
  rw [List.drop_eq_getElem_cons hk] at h
  injection h with h1 h2
  exact ⟨hk, by rw [List.getElem?_eq_getElem hk, h1], h2, h1 ▸ List.getElem_mem hk⟩
theorem m_seenMany {G : o_G} {d : Nat} {i : o_I} {r : o_R} {post : Int32 → o_I → Prop} {y lk : Nat} {O : mo_O} (hm : ly_m G r y) (hk1 : lk ≤ 1) (hO : mo_S i y lk O) (h : post (nI O.length) i) : SpI G (d + 1) mX10_seenMany [.ref y] post i r := by
  refine sp_of 0 (by decide +kernel) (Nat.le_of_ble_eq_true rfl) rfl (sX10_seenMany_0 y ⟨hm.1, fun x3 e3 => ?_⟩)
  obtain ⟨h1, h2, -⟩ := hO
  rw [h1] at e3
  rcases (show lk = 0 ∨ lk = 1 by omega) with rfl | rfl
  · rw [if_pos (by decide)] at e3
    rw [e3, h2]
    exact o_ri h
  · rw [if_neg (by decide)] at e3
    rw [e3, h2]
    exact o_ri h
theorem m_placeOf {G : o_G} {d : Nat} {i : o_I} {r : o_R} {post : Int32 → o_I → Prop} {y lk k : Nat} {O : mo_O} {o : Nat × Nat × Nat} (hm : ly_m G r y) (hk1 : lk ≤ 1) (hO : mo_S i y lk O) (hl : O.length ≤ 128) (hk : O[k]? = some o) (h : post (nI o.1) i) : SpI G (d + 1) mX10_placeOf [.ref y, .int (nI k)] post i r := by
  obtain ⟨e0, Z0⟩ := hm.2 21 18 1 128 rfl (by decide)
  obtain ⟨e1, Z1⟩ := hm.2 25 21 1 128 rfl (by decide)
  have hkl := (List.getElem?_eq_some_iff.mp hk).1
  obtain ⟨h1, -, h2⟩ := hO
  have g := (h2 k o hk).1
  refine sp_of 0 (by decide +kernel) (Nat.le_of_ble_eq_true rfl) rfl (sX10_placeOf_0 y _ ?_)
  rw [e0, e1, Z0.len, Z1.len, h1, nI_clamp (n := k) (by omega)]
  refine ⟨hm.1, ⟨fun _ => ⟨Z0.Y, vp_in_nI (by omega) (by decide), trivial⟩, fun _ => ⟨Z1.Y, vp_in_nI (by omega) (by decide), trivial⟩⟩, fun x e => ?_⟩
  rcases (show lk = 0 ∨ lk = 1 by omega) with rfl | rfl
  · rw [if_pos (by decide)] at e
    rw [e, show i (y + 18) k = nI o.1 from g]
    exact o_ri h
  · rw [if_neg (by decide)] at e
    rw [e, show i (y + 21) k = nI o.1 from g]
    exact o_ri h
theorem m_codeAt {G : o_G} {d : Nat} {i : o_I} {r : o_R} {post : Int32 → o_I → Prop} {y lk k : Nat} {O : mo_O} {o : Nat × Nat × Nat} (hm : ly_m G r y) (hk1 : lk ≤ 1) (hO : mo_S i y lk O) (hl : O.length ≤ 128) (hk : O[k]? = some o) (h : post (nI o.2.1) i) : SpI G (d + 1) mX10_codeAt [.ref y, .int (nI k)] post i r := by
  obtain ⟨e0, Z0⟩ := hm.2 22 19 1 128 rfl (by decide)
  obtain ⟨e1, Z1⟩ := hm.2 26 22 1 128 rfl (by decide)
  have hkl := (List.getElem?_eq_some_iff.mp hk).1
  obtain ⟨h1, -, h2⟩ := hO
  have g := (h2 k o hk).2.1
  refine sp_of 0 (by decide +kernel) (Nat.le_of_ble_eq_true rfl) rfl (sX10_codeAt_0 y _ ?_)
  rw [e0, e1, Z0.len, Z1.len, h1, nI_clamp (n := k) (by omega)]
  refine ⟨hm.1, ⟨fun _ => ⟨Z0.Y, vp_in_nI (by omega) (by decide), trivial⟩, fun _ => ⟨Z1.Y, vp_in_nI (by omega) (by decide), trivial⟩⟩, fun x e => ?_⟩
  rcases (show lk = 0 ∨ lk = 1 by omega) with rfl | rfl
  · rw [if_pos (by decide)] at e
    rw [e, show i (y + 19) k = nI o.2.1 from g]
    exact o_ri h
  · rw [if_neg (by decide)] at e
    rw [e, show i (y + 22) k = nI o.2.1 from g]
    exact o_ri h
theorem m_qualityAt {G : o_G} {d : Nat} {i : o_I} {r : o_R} {post : Int32 → o_I → Prop} {y lk k : Nat} {O : mo_O} {o : Nat × Nat × Nat} (hm : ly_m G r y) (hk1 : lk ≤ 1) (hO : mo_S i y lk O) (hl : O.length ≤ 128) (hk : O[k]? = some o) (h : post (nI o.2.2) i) : SpI G (d + 1) mX10_qualityAt [.ref y, .int (nI k)] post i r := by
  obtain ⟨e0, Z0⟩ := hm.2 23 20 1 128 rfl (by decide)
  obtain ⟨e1, Z1⟩ := hm.2 27 23 1 128 rfl (by decide)
  have hkl := (List.getElem?_eq_some_iff.mp hk).1
  obtain ⟨h1, -, h2⟩ := hO
  have g := (h2 k o hk).2.2
  refine sp_of 0 (by decide +kernel) (Nat.le_of_ble_eq_true rfl) rfl (sX10_qualityAt_0 y _ ?_)
  rw [e0, e1, Z0.len, Z1.len, h1, nI_clamp (n := k) (by omega)]
  refine ⟨hm.1, ⟨fun _ => ⟨Z0.Y, vp_in_nI (by omega) (by decide), trivial⟩, fun _ => ⟨Z1.Y, vp_in_nI (by omega) (by decide), trivial⟩⟩, fun x e => ?_⟩
  rcases (show lk = 0 ∨ lk = 1 by omega) with rfl | rfl
  · rw [if_pos (by decide)] at e
    rw [e, show i (y + 20) k = nI o.2.2 from g]
    exact o_ri h
  · rw [if_neg (by decide)] at e
    rw [e, show i (y + 23) k = nI o.2.2 from g]
    exact o_ri h
theorem m_firstOf {G : o_G} {d : Nat} {i : o_I} {r : o_R} {post : Int32 → o_I → Prop} {k : Nat} (hk : k < 6) (h : post (nI (jd_fi k)) i) : SpI G (d + 1) mX10_firstOf [.int (nI k)] post i r := by
  refine sp_of 0 (by decide +kernel) (Nat.le_of_ble_eq_true rfl) rfl (sX10_firstOf_0 _ (fun x e => ?_))
  have : x = nI (jd_fi k) := by
    rw [e]
    rcases (show k = 0 ∨ k = 1 ∨ k = 2 ∨ k = 3 ∨ k = 4 ∨ k = 5 by omega) with rfl | rfl | rfl | rfl | rfl | rfl <;> decide
  rw [this]
  exact o_ri h
theorem m_secondOf {G : o_G} {d : Nat} {i : o_I} {r : o_R} {post : Int32 → o_I → Prop} {k : Nat} (hk : k < 6) (h : post (nI (jd_se k)) i) : SpI G (d + 1) mX10_secondOf [.int (nI k)] post i r := by
  refine sp_of 0 (by decide +kernel) (Nat.le_of_ble_eq_true rfl) rfl (sX10_secondOf_0 _ (fun x e => ?_))
  have : x = nI (jd_se k) := by
    rw [e]
    rcases (show k = 0 ∨ k = 1 ∨ k = 2 ∨ k = 3 ∨ k = 4 ∨ k = 5 by omega) with rfl | rfl | rfl | rfl | rfl | rfl <;> decide
  rw [this]
  exact o_ri h
/-- the reference's alleles -/
def ma_S (i : o_I) (y : Nat) (al : List Nat) : Prop := i y 31 = nI al.length ∧ ∀ k c, al[k]? = some c → c ≤ 103 ∧ i (y + 24) k = nI c
theorem m_penaltyOf {G : o_G} {d : Nat} {i : o_I} {r : o_R} {post : Int32 → o_I → Prop} {y lk p k : Nat} {O : mo_O} {al : List Nat} (hm : ly_m G r y) (hk1 : lk ≤ 1) (hO : mo_S i y lk O) (hok : mo_ok O) (hA : ma_S i y al) (h1 : 1 ≤ al.length) (h3 : al.length ≤ 3) (hp : p < 48) (hsite : i y 29 = nI p) (hk : k < jd_np al.length) (h : post (nI (jd_pk (mo_at p O) al k)) i) : SpI G (d + 2) mX10_penaltyOf [.ref y, .int (nI k)] post i r := by
  obtain ⟨eA, ZA⟩ := hm.2 32 24 1 3 rfl (by decide)
  obtain ⟨h128, hq⟩ := hok
  have k6 : k < 6 := by rcases jd_np_cases h1 h3 with ⟨-, e⟩ | ⟨-, e⟩ | ⟨-, e⟩ <;> omega
  obtain ⟨ha, hb⟩ := jd_fi_lt h1 h3 hk
  have ga : al[jd_fi k]? = some (al.getD (jd_fi k) 0) := by rw [List.getD_eq_getElem?_getD, List.getElem?_eq_getElem ha]; rfl
  have gb : al[jd_se k]? = some (al.getD (jd_se k) 0) := by rw [List.getD_eq_getElem?_getD, List.getElem?_eq_getElem hb]; rfl
  obtain ⟨a1, a2⟩ := hA.2 _ _ ga
  obtain ⟨b1, b2⟩ := hA.2 _ _ gb
  unfold jd_pk at h
  have hbase : (if nI k = 0 then (0 : Int32) else (if nI (jd_fi k) = 0 then 20 else (if nI (jd_fi k) = nI (jd_se k) then 30 else 40))) = nI (jd_base (jd_fi k) (jd_se k)) := by
    rcases (show k = 0 ∨ k = 1 ∨ k = 2 ∨ k = 3 ∨ k = 4 ∨ k = 5 by omega) with rfl | rfl | rfl | rfl | rfl | rfl <;> decide
  have hble := jd_base_le (jd_fi k) (jd_se k)
  generalize al.getD (jd_fi k) 0 = x at *
  generalize al.getD (jd_se k) 0 = z at *
  generalize jd_base (jd_fi k) (jd_se k) = bs at *
  generalize hfa : jd_fi k = fa at *
  generalize hfb : jd_se k = fb at *
  have loop : ∀ (u : mo_O) q t, O.drop q = u → q ≤ O.length → t ≤ 40 + 93 * q → (mo_at p u).foldl (jd_po x z) t = jd_pen (mo_at p O) x z bs → Ok G (d + 2) mX10_penaltyOf (fun v j w => w = r ∧ ∃ e, v = some (.int e) ∧ post e j) 44 [some (.ref y), none, some (.int (nI fa)), some (.int (nI fb)), some (.int (nI t)), some (.int (nI q)), none, none] [] i r := by
    intro u
    induction u with
    | nil =>
      intro q t hu hql ht hf
      have hkl : q = O.length := by
        have := congrArg List.length hu
        rw [List.length_drop] at this
        simp at this
        omega
      have hf : t = jd_pen (mo_at p O) x z bs := hf
      refine sX10_penaltyOf_44 y _ _ _ _ ⟨hm.1, m_seenMany hm hk1 hO ⟨fun _ => ?_, fun hle => absurd (nI_le (by omega) (by omega)) hle⟩⟩
      rw [hf]
      exact o_ri h
    | cons o u ih =>
      intro q t hu hql ht hf
      obtain ⟨g1, g2, g3, g4⟩ := mo_drop hu
      obtain ⟨o1, o2, o3⟩ := hq o g4
      have zx : nI o.2.1 = nI x ↔ o.2.1 = x := nI_eq (by omega) (by omega)
      have zz : nI o.2.1 = nI z ↔ o.2.1 = z := nI_eq (by omega) (by omega)
      have zp : nI o.1 = nI p ↔ o.1 = p := nI_eq (by omega) (by omega)
      rw [mo_at_cons] at hf
      have step3 : jd_po x z t o.2 = t + 3 → o.1 = p → Ok G (d + 2) mX10_penaltyOf (fun v j w => w = r ∧ ∃ e, v = some (.int e) ∧ post e j) 136 [some (.ref y), none, some (.int (nI fa)), some (.int (nI fb)), none, some (.int (nI q)), none, none] [.int (nI t)] i r := fun e hp' => by
        rw [if_pos hp', List.foldl_cons, e] at hf
        refine sX10_penaltyOf_136 y _ _ _ _ (fun x1 e1 x2 e2 => ?_)
        rw [e1, e2, nI_1, show (3 : Int32) = nI 3 from rfl, nI_add]
        exact ih (q + 1) _ g3 (by omega) (by omega) hf
      refine sX10_penaltyOf_44 y _ _ _ _ ⟨hm.1, m_seenMany hm hk1 hO ⟨fun hle => absurd hle (nI_ge g1 (by omega)), fun _ => m_codeAt hm hk1 hO h128 g2 ?_⟩⟩
      rw [eA, ZA.len, nI_clamp (n := fa) (by omega), a2, nI_clamp (n := fb) (by omega)]
      refine ⟨ZA.Y, vp_in_nI (by omega) (by decide), fun x8 e8 => m_codeAt hm hk1 hO h128 g2 ?_⟩
      rw [b2]
      refine ⟨vp_in_nI (by omega) (by decide), fun x12 e12 => m_placeOf hm hk1 hO h128 g2 ?_⟩
      rw [hsite]
      have e01 : ¬ (1 : Int32) = 0 := by decide
      refine ⟨fun hne x15 e15 => ?_, fun hpe => ?_⟩
      · rw [if_neg (fun w => hne (zp.mpr w))] at hf
        rw [e15, nI_1]
        exact ih (q + 1) t g3 (by omega) (by omega) hf
      · have hpe := zp.mp hpe
        by_cases c1 : o.2.1 = x
        · rw [if_pos (zx.mpr c1)] at e8
          subst e8
          by_cases c2 : o.2.1 = z
          · rw [if_pos (zz.mpr c2)] at e12
            subst e12
            refine ⟨fun w => absurd w e01, fun _ => ⟨fun w => absurd w e01, fun _ x28 e28 x29 e29 => ?_⟩⟩
            rw [if_pos hpe, List.foldl_cons, show jd_po x z t o.2 = t by unfold jd_po; rw [if_pos c1, if_pos c2]] at hf
            rw [e28, e29, nI_1, Int32.add_zero]
            exact ih (q + 1) t g3 (by omega) (by omega) hf
          · rw [if_neg (fun w => c2 (zz.mp w))] at e12
            subst e12
            exact ⟨fun w => absurd w e01, fun _ => ⟨fun _ => ⟨fun _ => step3 (by unfold jd_po; rw [if_pos c1, if_neg c2]) hpe, fun w => absurd w e01⟩, fun w => absurd rfl w⟩⟩
        · rw [if_neg (fun w => c1 (zx.mp w))] at e8
          subst e8
          by_cases c2 : o.2.1 = z
          · rw [if_pos (zz.mpr c2)] at e12
            subst e12
            exact ⟨fun _ => ⟨fun w => absurd rfl w, fun _ => ⟨fun w => absurd w e01, fun _ => step3 (by unfold jd_po; rw [if_neg c1, if_pos c2]) hpe⟩⟩, fun w => absurd rfl w⟩
          · rw [if_neg (fun w => c2 (zz.mp w))] at e12
            subst e12
            refine ⟨fun _ => ⟨fun w => absurd rfl w, fun _ => ⟨fun _ => m_qualityAt hm hk1 hO h128 g2 (fun x20 e20 x21 e21 => ?_), fun w => absurd rfl w⟩⟩, fun w => absurd rfl w⟩
            rw [if_pos hpe, List.foldl_cons, show jd_po x z t o.2 = t + o.2.2 by unfold jd_po; rw [if_neg c1, if_neg c2]] at hf
            rw [e20, e21, nI_1, nI_add]
            exact ih (q + 1) _ g3 (by omega) (by omega) hf
  refine sp_of 6 (by decide +kernel) (Nat.le_of_ble_eq_true rfl) rfl (sX10_penaltyOf_0 y _ (m_firstOf k6 (m_secondOf k6 (fun x6 e6 => ?_))))
  rw [hfa, hfb] at e6
  rw [hfa, hfb, e6, hbase]
  exact loop O 0 bs rfl (Nat.zero_le _) (by omega) rfl

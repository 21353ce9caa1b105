/-! Site.countOf, countOfKind; Judge.isAllele, addAllele, addMostSeen, penalty -/
def jd_l (s : jd_s) : List (Int32 × Int32) := s.map (fun o => (nI o.1, nI o.2))
def jd_ok (s : jd_s) : Prop := s.length ≤ 8 ∧ ∀ o ∈ s, o.1 ≤ 127 ∧ o.2 ≤ 93
theorem jd_drop {s : jd_s} {k : Nat} {o : Nat × Nat} {u : jd_s} (h : s.drop k = o :: u) : k < s.length ∧ s[k]? = some o ∧ s.drop (k + 1) = u ∧ o ∈ s := by
  have hk : k < s.length := by
    have := congrArg List.length h
    rw [List.length_drop] at this
    simp at this
    omega
  rw [List.drop_eq_getElem_cons hk] at h
  injection h with h1 h2
  exact ⟨hk, by rw [List.getElem?_eq_getElem hk, h1], h2, h1 ▸ List.getElem_mem hk⟩
theorem jd_l_at {i : o_I} {st k : Nat} {s : jd_s} {o : Nat × Nat} (h : st_S i st (jd_l s)) (hk : s[k]? = some o) : i (st + 1) k = nI o.1 ∧ i (st + 2) k = nI o.2 := h.2.2 k (nI o.1, nI o.2) (by unfold jd_l; rw [List.getElem?_map, hk]; rfl)
theorem jd_l_cnt {i : o_I} {st : Nat} {s : jd_s} (h : st_S i st (jd_l s)) : i st 2 = nI s.length := by
  have := h.1
  unfold jd_l at this
  rw [List.length_map] at this
  exact this
theorem jd_n_cons (o : Nat × Nat) (s : jd_s) (c : Nat) : jd_n (o :: s) c = jd_n s c + if o.1 = c then 1 else 0 := by
  unfold jd_n
  rw [List.countP_cons]
  simp
theorem jd_n_le (s : jd_s) (c : Nat) : jd_n s c ≤ s.length := List.countP_le_length
theorem jd_n_pos {s : jd_s} {o : Nat × Nat} (h : o ∈ s) : 1 ≤ jd_n s o.1 := List.countP_pos_iff.mpr ⟨o, h, by simp⟩
theorem c_countOf {G : o_G} {d : Nat} {i : o_I} {r : o_R} {post : Int32 → o_I → Prop} {st c : Nat} {s : jd_s} (hst : ly_st G r st) (hS : st_S i st (jd_l s)) (hs : jd_ok s) (hc : c ≤ 127) (h : post (nI (jd_n s c)) i) : SpI G (d + 1) mX7_countOf [.ref st, .int (nI c)] post i r := by
  obtain ⟨hO, e0, Z0, e1, Z1⟩ := hst
  obtain ⟨h8, hb⟩ := hs
  have loop : ∀ (u : jd_s) k n, s.drop k = u → k ≤ s.length → n + jd_n u c = jd_n s c → Ok G (d + 1) mX7_countOf (fun v j q => q = r ∧ ∃ x, v = some (.int x) ∧ post x j) 4 [some (.ref st), some (.int (nI c)), some (.int (nI n)), some (.int (nI k))] [] i r := by
    intro u
    induction u with
    | nil =>
      intro k n hu hk hn
      have hkl : k = s.length := by
        have := congrArg List.length hu
        rw [List.length_drop] at this
        simp at this
        omega
      refine sX7_countOf_4 st _ _ _ ⟨hO, fun _ => ?_, fun hle => absurd ?_ hle⟩
      · have : n = jd_n s c := hn
        rw [this]
        exact o_ri h
      · rw [jd_l_cnt hS]
        exact nI_le (by omega) (by omega)
    | cons o u ih =>
      intro k n hu hk hn
      obtain ⟨g1, g2, g3, g4⟩ := jd_drop hu
      refine sX7_countOf_4 st _ _ _ ⟨hO, fun hle => absurd hle ?_, fun _ => ?_⟩
      · rw [jd_l_cnt hS]
        exact nI_ge g1 (by omega)
      · rw [e0, Z0.len, nI_clamp (by omega), (jd_l_at hS g2).1]
        refine ⟨Z0.Y, vp_in_nI (by omega) (by decide), fun x7 e7 x8 e8 => ?_⟩
        have hx : x7 = nI (n + if o.1 = c then 1 else 0) := by
          rw [e7]
          have z : nI o.1 = nI c ↔ o.1 = c := nI_eq (by have := (hb o g4).1; omega) (by omega)
          by_cases w : o.1 = c
          · rw [if_pos (z.mpr w), if_pos w, nI_1]
          · rw [if_neg (fun q => w (z.mp q)), if_neg w]
            rfl
        rw [hx, e8, nI_1]
        rw [jd_n_cons] at hn
        exact ih (k + 1) _ g3 (by omega) (by omega)
  exact sp_of 2 (by decide +kernel) (Nat.le_of_ble_eq_true rfl) rfl (sX7_countOf_0 st _ (loop s 0 0 rfl (Nat.zero_le _) (Nat.zero_add _)))
/-- kinds of links: 0 plain, 1 losses, 2 gains -/
def jd_kd (c : Nat) : Nat := if c = 0 then 0 else if c < 4 then 1 else 2
def jd_nk (s : jd_s) (kd : Int32) : Nat := s.countP (fun o => nI (jd_kd o.1) == kd)
theorem jd_nk_cons (o : Nat × Nat) (s : jd_s) (kd : Int32) : jd_nk (o :: s) kd = jd_nk s kd + if nI (jd_kd o.1) = kd then 1 else 0 := by
  unfold jd_nk
  rw [List.countP_cons]
  simp
theorem c_kindOf {G : o_G} {d : Nat} {i : o_I} {r : o_R} {post : Int32 → o_I → Prop} {c : Nat} (hc : c ≤ 127) (h : post (nI (jd_kd c)) i) : SpI G (d + 1) mX7_kindOf [.int (nI c)] post i r := by
  have z : nI c = 0 ↔ c = 0 := nI_eq (b := 0) (by omega) (by decide)
  have z4 : (4 : Int32) ≤ nI c ↔ 4 ≤ c := nI_leI (a := 4) (by decide) (by omega)
  unfold jd_kd at h
  refine sp_of 0 (by decide +kernel) (Nat.le_of_ble_eq_true rfl) rfl (sX7_kindOf_0 _ ⟨fun h0 x3 e3 => ?_, fun h0 => ?_⟩)
  · rw [if_neg (fun q => h0 (z.mpr q))] at h
    rw [e3]
    by_cases w : 4 ≤ c
    · rw [if_neg (by omega)] at h
      rw [if_pos (z4.mpr w)]
      exact o_ri h
    · rw [if_pos (by omega)] at h
      rw [if_neg (fun q => w (z4.mp q))]
      exact o_ri h
  · rw [if_pos (z.mp h0)] at h
    exact o_ri h
theorem c_countOfKind {G : o_G} {d : Nat} {i : o_I} {r : o_R} {post : Int32 → o_I → Prop} {st : Nat} {kd : Int32} {s : jd_s} (hst : ly_st G r st) (hS : st_S i st (jd_l s)) (hs : jd_ok s) (h : post (nI (jd_nk s kd)) i) : SpI G (d + 2) mX7_countOfKind [.ref st, .int kd] post i r := by
  obtain ⟨hO, e0, Z0, e1, Z1⟩ := hst
  obtain ⟨h8, hb⟩ := hs
  have loop : ∀ (u : jd_s) k n, s.drop k = u → k ≤ s.length → n + jd_nk u kd = jd_nk s kd → Ok G (d + 2) mX7_countOfKind (fun v j q => q = r ∧ ∃ x, v = some (.int x) ∧ post x j) 4 [some (.ref st), some (.int kd), some (.int (nI n)), some (.int (nI k))] [] i r := by
    intro u
    induction u with
    | nil =>
      intro k n hu hk hn
      have hkl : k = s.length := by
        have := congrArg List.length hu
        rw [List.length_drop] at this
        simp at this
        omega
      refine sX7_countOfKind_4 st _ _ _ ⟨hO, fun _ => ?_, fun hle => absurd ?_ hle⟩
      · have : n = jd_nk s kd := hn
        rw [this]
        exact o_ri h
      · rw [jd_l_cnt hS]
        exact nI_le (by omega) (by omega)
    | cons o u ih =>
      intro k n hu hk hn
      obtain ⟨g1, g2, g3, g4⟩ := jd_drop hu
      refine sX7_countOfKind_4 st _ _ _ ⟨hO, fun hle => absurd hle ?_, fun _ => ?_⟩
      · rw [jd_l_cnt hS]
        exact nI_ge g1 (by omega)
      · rw [e0, Z0.len, nI_clamp (by omega), (jd_l_at hS g2).1]
        refine ⟨Z0.Y, vp_in_nI (by omega) (by decide), c_kindOf (hb o g4).1 (fun x7 e7 x8 e8 => ?_)⟩
        have hx : x7 = nI (n + if nI (jd_kd o.1) = kd then 1 else 0) := by
          rw [e7]
          by_cases w : nI (jd_kd o.1) = kd
          · rw [if_pos w, if_pos w, nI_1]
          · rw [if_neg w, if_neg w]
            rfl
        rw [hx, e8, nI_1]
        rw [jd_nk_cons] at hn
        exact ih (k + 1) _ g3 (by omega) (by omega)
  exact sp_of 2 (by decide +kernel) (Nat.le_of_ble_eq_true rfl) rfl (sX7_countOfKind_0 st _ (loop s 0 0 rfl (Nat.zero_le _) (Nat.zero_add _)))
/-- the judge's cells, and its alleles -/
def ly_jd (G : o_G) (r : o_R) (jd : Nat) : Prop := o_O G jd 2 ∧ r jd 0 = jd + 1 ∧ o_Z G (jd + 1) 1 3 ∧ r jd 1 = jd + 2 ∧ o_Z G (jd + 2) 1 3 ∧ r jd 3 = jd + 3 ∧ o_Z G (jd + 3) 1 6
def ja_S (i : o_I) (jd : Nat) (s : jd_s) (al : List Nat) : Prop := i jd 2 = nI al.length ∧ ∀ k c, al[k]? = some c → c ≤ 127 ∧ i (jd + 1) k = nI c ∧ i (jd + 2) k = nI (jd_n s c)
def ja_F (jd : Nat) (i j : o_I) : Prop := ∀ a k, ¬ (a = jd ∧ k = 2) → a ≠ jd + 1 → a ≠ jd + 2 → j a k = i a k
theorem st_F {i j : o_I} {jd st : Nat} {l : List (Int32 × Int32)} (h : st_S i st l) (hd : st + 3 ≤ jd) (hF : ja_F jd i j) : st_S j st l := st_same h (fun a k ha => hF a k (by omega) (by omega) (by omega))
theorem c_isAllele {G : o_G} {d : Nat} {i : o_I} {r : o_R} {post : Int32 → o_I → Prop} {jd c : Nat} {s : jd_s} {al : List Nat} (hj : ly_jd G r jd) (hA : ja_S i jd s al) (h3 : al.length ≤ 3) (hc : c ≤ 127) (h : post (if c ∈ al then 1 else 0) i) : SpI G (d + 1) mX2_isAllele [.ref jd, .int (nI c)] post i r := by
  obtain ⟨hO, e0, Z0, -⟩ := hj
  obtain ⟨a1, a2⟩ := hA
  have loop : ∀ m k, k + m = al.length → (∀ z, z < k → al[z]? ≠ some c) → Ok G (d + 1) mX2_isAllele (fun v j q => q = r ∧ ∃ x, v = some (.int x) ∧ post x j) 2 [some (.ref jd), some (.int (nI c)), some (.int (nI k))] [] i r := by
    intro m
    induction m with
    | zero =>
      intro k hk hn
      refine sX2_isAllele_2 jd _ _ ⟨hO, fun _ => ?_, fun hle => absurd ?_ hle⟩
      · rw [if_neg (fun hm => by
          obtain ⟨z, hz, e⟩ := List.getElem_of_mem hm
          exact hn z (by omega) (by rw [List.getElem?_eq_getElem hz, e]))] at h
        exact o_ri h
      · rw [a1]
        exact nI_le (by omega) (by omega)
    | succ m ih =>
      intro k hk hn
      refine sX2_isAllele_2 jd _ _ ⟨hO, fun hle => absurd hle ?_, fun _ => ?_⟩
      · rw [a1]
        exact nI_ge (by omega) (by omega)
      · have hkl : k < al.length := by omega
        have hg : al[k]? = some al[k] := List.getElem?_eq_getElem hkl
        obtain ⟨b1, b2, b3⟩ := a2 k _ hg
        have z : nI al[k] = nI c ↔ al[k] = c := nI_eq (by omega) (by omega)
        rw [e0, Z0.len, nI_clamp (by omega), b2]
        refine ⟨Z0.Y, vp_in_nI (by omega) (by decide), fun hne x6 e6 => ?_, fun he => ?_⟩
        · rw [e6, nI_1]
          refine ih (k + 1) (by omega) (fun w hw => ?_)
          by_cases e : w = k
          · rw [e, hg]
            exact fun q => hne (z.mpr (by simpa using q))
          · exact hn w (by omega)
        · rw [if_pos ((z.mp he) ▸ List.getElem_mem hkl)] at h
          exact o_ri h
  exact sp_of 1 (by decide +kernel) (Nat.le_of_ble_eq_true rfl) rfl (sX2_isAllele_0 jd _ (loop al.length 0 (by omega) (fun z hz => absurd hz (Nat.not_lt_zero z))))
theorem c_addAllele {G : o_G} {d : Nat} {i : o_I} {r : o_R} {post : o_I → Prop} {jd st c : Nat} {s : jd_s} {al : List Nat} (hj : ly_jd G r jd) (hst : ly_st G r st) (hd : st + 3 ≤ jd) (hS : st_S i st (jd_l s)) (hs : jd_ok s) (hA : ja_S i jd s al) (h2 : al.length ≤ 2) (hc : c ≤ 127) (h : ∀ j, ja_S j jd s (al ++ [c]) → ja_F jd i j → post j) : SpV G (d + 2) mX2_addAllele [.ref jd, .ref st, .int (nI c)] post i r := by
  obtain ⟨hO, e0, Z0, e1, Z1, -⟩ := hj
  obtain ⟨a1, a2⟩ := hA
  refine sp_of 0 (by decide +kernel) (Nat.le_of_ble_eq_true rfl) rfl (sX2_addAllele_0 jd st _ ?_)
  rw [a1, e0, e1, Z0.len, Z1.len, nI_clamp (by omega)]
  refine ⟨hO, Z0.Y, vp_in_nI (by omega) (by decide), fun i4 f4 => ⟨hst.1, ?_⟩⟩
  have c4 : i4 jd 2 = nI al.length := by rw [f4, o_up_a (by omega)]; exact a1
  have S4 : st_S i4 st (jd_l s) := st_same hS (fun a k ha => by rw [f4, o_up_a (by omega)])
  rw [c4, nI_clamp (by omega)]
  refine c_countOf hst S4 hs hc ⟨Z1.Y, vp_in_nI (by omega) (by decide), fun i9 f9 i10 f10 => o_rv (h i10 ⟨?_, fun k x hk => ?_⟩ (fun a k b1 b2 b3 => ?_))⟩
  · rw [f10, o_up_s, f9, o_up_a (by omega), c4, nI_1, List.length_append]
    rfl
  · rw [f10, o_up_a (by omega), o_up_a (by omega), f9, o_up_a (by omega)]
    by_cases ek : k = al.length
    · subst ek
      rw [List.getElem?_append_right (Nat.le_refl _), Nat.sub_self] at hk
      cases hk
      exact ⟨hc, by rw [f4, o_up_s], by rw [o_up_s]⟩
    · have hkl : k < al.length := by
        have := (List.getElem?_eq_some_iff.mp hk).1
        rw [List.length_append] at this
        simp at this
        omega
      rw [List.getElem?_append_left hkl] at hk
      obtain ⟨q1, q2, q3⟩ := a2 k x hk
      exact ⟨q1, by rw [f4, o_up_k ek]; exact q2, by rw [o_up_k ek, f4, o_up_a (by omega)]; exact q3⟩
  · have k1 : i10 a k = i9 a k := by
      rw [f10]
      by_cases e : a = jd
      · rw [o_up_k (fun z => b1 ⟨e, z⟩)]
      · rw [o_up_a e]
    rw [k1, f9, o_up_a b3, f4, o_up_a b2]
def jd_v2 (b : Option Nat) : Int32 := match b with
  | none => -1
  | some x => nI x
def jd_v3 (s : jd_s) (b : Option Nat) : Int32 := match b with
  | none => 0
  | some x => nI (jd_n s x)
theorem jd_upd {s : jd_s} {al : List Nat} {o : Nat × Nat} {b : Option Nat} (hs : jd_ok s) (ho : o ∈ s) (hb : ∀ x, b = some x → x ≤ 127) :
    (if (if o.1 ∈ al then (1 : Int32) else 0) = 0 then (if jd_v3 s b < nI (jd_n s o.1) then nI o.1 else (if nI (jd_n s o.1) = jd_v3 s b then (if jd_v2 b ≤ nI o.1 then jd_v2 b else nI o.1) else jd_v2 b)) else jd_v2 b) = jd_v2 (jd_st s al b o) ∧
    (if (if o.1 ∈ al then (1 : Int32) else 0) = 0 then (if jd_v3 s b < nI (jd_n s o.1) then nI (jd_n s o.1) else (if nI (jd_n s o.1) = jd_v3 s b then (if jd_v2 b ≤ nI o.1 then jd_v3 s b else nI (jd_n s o.1)) else jd_v3 s b)) else jd_v3 s b) = jd_v3 s (jd_st s al b o) ∧ ∀ x, jd_st s al b o = some x → x ≤ 127 := by
  obtain ⟨h8, hq⟩ := hs
  have ho1 := (hq o ho).1
  have hn := jd_n_le s o.1
  have hp := jd_n_pos ho
  unfold jd_st
  by_cases hm : o.1 ∈ al
  · have e10 : ¬ (1 : Int32) = 0 := by decide
    simp only [if_pos hm, if_neg e10]
    exact ⟨trivial, trivial, hb⟩
  · rw [if_neg hm, if_pos rfl, if_pos rfl, if_neg hm]
    match b, hb with
    | none, hb =>
      have : (0 : Int32) < nI (jd_n s o.1) := nI_lt (a := 0) (by omega) (by omega)
      show (if (0 : Int32) < nI (jd_n s o.1) then nI o.1 else _) = nI o.1 ∧ (if (0 : Int32) < nI (jd_n s o.1) then nI (jd_n s o.1) else _) = nI (jd_n s o.1) ∧ _
      rw [if_pos this, if_pos this]
      exact ⟨rfl, rfl, fun x e => by cases e; exact ho1⟩
    | some x, hb =>
      have hx := hb x rfl
      have hnx := jd_n_le s x
      have z1 : nI (jd_n s x) < nI (jd_n s o.1) ↔ jd_n s x < jd_n s o.1 := nI_ltI (by omega) (by omega)
      have z2 : nI (jd_n s o.1) = nI (jd_n s x) ↔ jd_n s o.1 = jd_n s x := nI_eq (by omega) (by omega)
      have z3 : nI x ≤ nI o.1 ↔ x ≤ o.1 := nI_leI (by omega) (by omega)
      show (if nI (jd_n s x) < nI (jd_n s o.1) then nI o.1 else (if nI (jd_n s o.1) = nI (jd_n s x) then (if nI x ≤ nI o.1 then nI x else nI o.1) else nI x)) = jd_v2 (if jd_n s x < jd_n s o.1 ∨ (jd_n s o.1 = jd_n s x ∧ o.1 < x) then some o.1 else some x) ∧ (if nI (jd_n s x) < nI (jd_n s o.1) then nI (jd_n s o.1) else (if nI (jd_n s o.1) = nI (jd_n s x) then (if nI x ≤ nI o.1 then nI (jd_n s x) else nI (jd_n s o.1)) else nI (jd_n s x))) = jd_v3 s (if jd_n s x < jd_n s o.1 ∨ (jd_n s o.1 = jd_n s x ∧ o.1 < x) then some o.1 else some x) ∧ ∀ y, (if jd_n s x < jd_n s o.1 ∨ (jd_n s o.1 = jd_n s x ∧ o.1 < x) then some o.1 else some x) = some y → y ≤ 127
      by_cases w1 : jd_n s x < jd_n s o.1
      · rw [if_pos (z1.mpr w1), if_pos (z1.mpr w1), if_pos (Or.inl w1)]
        exact ⟨rfl, rfl, fun y e => by cases e; exact ho1⟩
      · rw [if_neg (fun z => w1 (z1.mp z)), if_neg (fun z => w1 (z1.mp z))]
        by_cases w2 : jd_n s o.1 = jd_n s x
        · rw [if_pos (z2.mpr w2), if_pos (z2.mpr w2)]
          by_cases w3 : x ≤ o.1
          · rw [if_pos (z3.mpr w3), if_pos (z3.mpr w3), if_neg (by omega)]
            exact ⟨rfl, rfl, fun y e => by cases e; exact hx⟩
          · rw [if_neg (fun z => w3 (z3.mp z)), if_neg (fun z => w3 (z3.mp z)), if_pos (by omega)]
            exact ⟨rfl, rfl, fun y e => by cases e; exact ho1⟩
        · rw [if_neg (fun z => w2 (z2.mp z)), if_neg (fun z => w2 (z2.mp z)), if_neg (by omega)]
          exact ⟨rfl, rfl, fun y e => by cases e; exact hx⟩
theorem c_addMostSeen {G : o_G} {d : Nat} {i : o_I} {r : o_R} {post : o_I → Prop} {jd st : Nat} {s : jd_s} {al : List Nat} (hj : ly_jd G r jd) (hst : ly_st G r st) (hd : st + 3 ≤ jd) (hS : st_S i st (jd_l s)) (hs : jd_ok s) (hA : ja_S i jd s al) (h2 : al.length ≤ 2) (h : ∀ j, ja_S j jd s (jd_add s al) → ja_F jd i j → post j) : SpV G (d + 3) mX2_addMostSeen [.ref jd, .ref st] post i r := by
  have loop : ∀ (u : jd_s) k b, s.drop k = u → k ≤ s.length → (∀ x, b = some x → x ≤ 127) → u.foldl (jd_st s al) b = jd_best s al → Ok G (d + 3) mX2_addMostSeen (fun v j q => q = r ∧ v = none ∧ post j) 7 [some (.ref jd), some (.ref st), some (.int (jd_v2 b)), some (.int (jd_v3 s b)), some (.int (nI k)), none, none] [] i r := by
    intro u
    induction u with
    | nil =>
      intro k b hu hk hb hf
      have hkl : k = s.length := by
        have := congrArg List.length hu
        rw [List.length_drop] at this
        simp at this
        omega
      have hf : b = jd_best s al := hf
      refine sX2_addMostSeen_7 jd st _ _ _ ⟨hst.1, fun _ => ⟨fun hm => ?_, fun hm => ⟨hj.1, ?_⟩⟩, fun hle => absurd ?_ hle⟩
      · have : b = none := by
          match b, hm, hb with
          | none, _, _ => rfl
          | some x, hm, hb =>
            have hx := hb x rfl
            have hm : nI x = -1 := hm
            exact absurd (hm ▸ nI_pos' (n := x) (by omega)) (by decide)
        refine o_rv (h i ?_ (fun _ _ _ _ _ => rfl))
        unfold jd_add
        rw [← hf, this]
        show ja_S i jd s (al ++ [])
        rw [List.append_nil]
        exact hA
      · match b, hm, hb, hf with
        | none, hm, _, _ => exact absurd rfl hm
        | some x, hm, hb, hf =>
          refine c_addAllele hj hst hd hS hs hA h2 (hb x rfl) (fun j b1 b2 => o_rv (h j ?_ b2))
          unfold jd_add
          rw [← hf]
          exact b1
      · rw [jd_l_cnt hS]
        exact nI_le (by omega) (by have := hs.1; omega)
    | cons o u ih =>
      intro k b hu hk hb hf
      obtain ⟨g1, g2, g3, g4⟩ := jd_drop hu
      have h8 := hs.1
      obtain ⟨u1, u2, u3⟩ := jd_upd (al := al) (b := b) hs g4 hb
      refine sX2_addMostSeen_7 jd st _ _ _ ⟨hst.1, fun hle => absurd hle ?_, fun _ => ?_⟩
      · rw [jd_l_cnt hS]
        exact nI_ge g1 (by omega)
      · rw [hst.2.1, hst.2.2.1.len, nI_clamp (by omega), (jd_l_at hS g2).1]
        refine ⟨hst.2.2.1.Y, vp_in_nI (by omega) (by decide), fun x8 e8 => ?_⟩
        subst e8
        refine c_countOf hst hS hs (hs.2 o g4).1 ⟨hj.1, c_isAllele hj hA (by omega) (hs.2 o g4).1 (fun x16 e16 x17 e17 x18 e18 => ?_)⟩
        rw [u1] at e16
        rw [u2] at e17
        rw [e16, e17, e18, nI_1]
        exact ih (k + 1) _ g3 (by omega) u3 hf
  exact sp_of 5 (by decide +kernel) (Nat.le_of_ble_eq_true rfl) rfl (sX2_addMostSeen_0 jd st (loop s 0 none rfl (Nat.zero_le _) (fun x e => by cases e) rfl))
theorem c_costOfPair {G : o_G} {d : Nat} {i : o_I} {r : o_R} {post : Int32 → o_I → Prop} {a b : Nat} (ha : a ≤ 2) (hb : b ≤ 2) (h : post (nI (jd_base a b)) i) : SpI G (d + 1) mX2_costOfPair [.int (nI a), .int (nI b)] post i r := by
  have z0 : nI a = 0 ↔ a = 0 := nI_eq (b := 0) (by omega) (by decide)
  have z1 : nI b = 0 ↔ b = 0 := nI_eq (b := 0) (by omega) (by decide)
  have z2 : nI a = nI b ↔ a = b := nI_eq (by omega) (by omega)
  unfold jd_base at h
  refine sp_of 0 (by decide +kernel) (Nat.le_of_ble_eq_true rfl) rfl (sX2_costOfPair_0 _ _ ⟨fun h0 x e => ?_, fun h0 x e => ?_⟩)
  · rw [if_neg (fun q => h0 (z0.mpr q))] at h
    rw [e]
    by_cases w : a = b
    · rw [if_pos w] at h
      rw [if_pos (z2.mpr w)]
      exact o_ri h
    · rw [if_neg w] at h
      rw [if_neg (fun q => w (z2.mp q))]
      exact o_ri h
  · rw [if_pos (z0.mp h0)] at h
    rw [e]
    by_cases w : b = 0
    · rw [if_pos w] at h
      rw [if_pos (z1.mpr w)]
      exact o_ri h
    · rw [if_neg w] at h
      rw [if_neg (fun q => w (z1.mp q))]
      exact o_ri h
theorem c_penalty {G : o_G} {d : Nat} {i : o_I} {r : o_R} {post : Int32 → o_I → Prop} {jd st a b : Nat} {s : jd_s} {al : List Nat} (hj : ly_jd G r jd) (hst : ly_st G r st) (hS : st_S i st (jd_l s)) (hs : jd_ok s) (hA : ja_S i jd s al) (h3 : al.length ≤ 3) (ha : a < al.length) (hb : b < al.length) (h : post (nI (jd_pen s (al.getD a 0) (al.getD b 0) (jd_base a b))) i) : SpI G (d + 2) mX2_penalty [.ref jd, .ref st, .int (nI a), .int (nI b)] post i r := by
  obtain ⟨hO, e0, Z0, -⟩ := hj
  obtain ⟨hOs, f0, Y0, f1, Y1⟩ := hst
  obtain ⟨h8, hq⟩ := hs
  have ga : al[a]? = some (al.getD a 0) := by rw [List.getD_eq_getElem?_getD, List.getElem?_eq_getElem ha]; rfl
  have gb : al[b]? = some (al.getD b 0) := by rw [List.getD_eq_getElem?_getD, List.getElem?_eq_getElem hb]; rfl
  obtain ⟨a1, a2, -⟩ := hA.2 a _ ga
  obtain ⟨b1, b2, -⟩ := hA.2 b _ gb
  generalize al.getD a 0 = x at *
  generalize al.getD b 0 = y at *
  have loop : ∀ (u : jd_s) k t, s.drop k = u → k ≤ s.length → t ≤ 40 + 93 * k → u.foldl (jd_po x y) t = jd_pen s x y (jd_base a b) → Ok G (d + 2) mX2_penalty (fun v j q => q = r ∧ ∃ z, v = some (.int z) ∧ post z j) 10 [some (.ref jd), some (.ref st), some (.int (nI a)), some (.int (nI b)), some (.int (nI t)), some (.int (nI k)), none, none] [] i r := by
    intro u
    induction u with
    | nil =>
      intro k t hu hk ht hf
      have hkl : k = s.length := by
        have := congrArg List.length hu
        rw [List.length_drop] at this
        simp at this
        omega
      have hf : t = jd_pen s x y (jd_base a b) := hf
      refine sX2_penalty_10 jd st _ _ _ _ ⟨hOs, fun _ => ?_, fun hle => absurd ?_ hle⟩
      · rw [hf]
        exact o_ri h
      · rw [jd_l_cnt hS]
        exact nI_le (by omega) (by omega)
    | cons o u ih =>
      intro k t hu hk ht hf
      obtain ⟨g1, g2, g3, g4⟩ := jd_drop hu
      obtain ⟨w1, w2⟩ := jd_l_at hS g2
      obtain ⟨o1, o2⟩ := hq o g4
      have zx : nI o.1 = nI x ↔ o.1 = x := nI_eq (by omega) (by omega)
      have zy : nI o.1 = nI y ↔ o.1 = y := nI_eq (by omega) (by omega)
      refine sX2_penalty_10 jd st _ _ _ _ ⟨hOs, fun hle => absurd hle ?_, fun _ => ?_⟩
      · rw [jd_l_cnt hS]
        exact nI_ge g1 (by omega)
      · rw [f0, f1, e0, Y0.len, Y1.len, Z0.len, nI_clamp (n := k) (by omega), nI_clamp (n := a) (by omega), nI_clamp (n := b) (by omega), w1, w2, a2, b2]
        refine ⟨Y0.Y, vp_in_nI (by omega) (by decide), hO, Z0.Y, vp_in_nI (by omega) (by decide), fun x9 e9 => ⟨vp_in_nI (by omega) (by decide), fun x12 e12 => ⟨⟨fun _ => ⟨fun _ => trivial, fun _ => ⟨Y1.Y, vp_in_nI (by omega) (by decide), trivial⟩⟩, fun _ => trivial⟩, fun x18 e18 x19 e19 => ?_⟩⟩⟩
        have hx : x18 = nI (jd_po x y t o) := by
          unfold jd_po
          rw [e18, e9, e12]
          by_cases c1 : o.1 = x
          · rw [if_pos (zx.mpr c1), if_pos c1]
            by_cases c2 : o.1 = y
            · rw [if_pos (zy.mpr c2), if_pos c2, if_pos rfl, if_neg (by decide)]
            · rw [if_neg (fun z => c2 (zy.mp z)), if_neg c2, if_neg (by decide), show (3 : Int32) = nI 3 from rfl, nI_add]
          · rw [if_neg (fun z => c1 (zx.mp z)), if_neg c1]
            by_cases c2 : o.1 = y
            · rw [if_pos (zy.mpr c2), if_pos c2, if_neg (by decide), show (3 : Int32) = nI 3 from rfl, nI_add]
            · rw [if_neg (fun z => c2 (zy.mp z)), if_neg c2, if_pos rfl, if_pos rfl, nI_add]
        rw [hx, e19, nI_1]
        refine ih (k + 1) _ g3 (by omega) ?_ hf
        unfold jd_po
        split <;> split <;> omega
  refine sp_of 4 (by decide +kernel) (Nat.le_of_ble_eq_true rfl) rfl (sX2_penalty_0 jd st _ _ (c_costOfPair (by omega) (by omega) ?_))
  exact loop s 0 _ rfl (Nat.zero_le _) (jd_base_le a b) rfl
theorem c_differs {G : o_G} {d : Nat} {i : o_I} {r : o_R} {post : Int32 → o_I → Prop} {jd n : Nat} (hj : ly_jd G r jd) (hc : i jd 5 = nI n) (hn : n ≤ 5) (h : post (if n = 0 then 0 else 1) i) : SpI G (d + 1) mX2_differs [.ref jd] post i r := by
  have z0 : nI n = 0 ↔ n = 0 := nI_eq (b := 0) (by omega) (by decide)
  refine sp_of 0 (by decide +kernel) (Nat.le_of_ble_eq_true rfl) rfl (sX2_differs_0 jd ⟨hj.1, fun x e => ?_⟩)
  rw [hc] at e
  by_cases w : n = 0
  · rw [if_pos (z0.mpr w)] at e
    rw [if_pos w] at h
    rw [e]
    exact ⟨Or.inl rfl, o_ri h⟩
  · rw [if_neg (fun q => w (z0.mp q))] at e
    rw [if_neg w] at h
    rw [e]
    exact ⟨Or.inr rfl, o_ri h⟩
theorem c_excess {G : o_G} {d : Nat} {i : o_I} {r : o_R} {post : Int32 → o_I → Prop} {jd n k x y : Nat} (hj : ly_jd G r jd) (hc : i jd 5 = nI n) (hn : n < 6) (hk : k < 6) (hx : i (jd + 3) k = nI x) (hy : i (jd + 3) n = nI y) (hxy : y ≤ x) (h : post (nI (x - y)) i) : SpI G (d + 1) mX2_excess [.ref jd, .int (nI k)] post i r := by
  obtain ⟨hO, -, -, -, -, e3, Z3⟩ := hj
  refine sp_of 0 (by decide +kernel) (Nat.le_of_ble_eq_true rfl) rfl (sX2_excess_0 jd _ ?_)
  rw [e3, Z3.len, hc, nI_clamp (n := k) (by omega), nI_clamp (n := n) (by omega), hx, hy, pk_sub hxy]
  exact ⟨hO, Z3.Y, vp_in_nI (by omega) (by decide), vp_in_nI (by omega) (by decide), o_ri h⟩

/-! THE REFERENCE: addAllele, reported, siteThere -/
/-- the best of the codes below c -/
def jd_P (s : jd_s) (al : List Nat) (c : Nat) : Option Nat → Prop
  | none => ∀ x, x < c → x ∉ al → jd_n s x = 0
  | some b => b < c ∧ b ∉ al ∧ 0 < jd_n s b ∧ ∀ x, x < c → x ∉ al → jd_n s x < jd_n s b ∨ (jd_n s x = jd_n s b ∧ b ≤ x)
theorem jd_P_B {s : jd_s} {al : List Nat} {b : Option Nat} (hs : ∀ o ∈ s, o.1 ≤ 103) (h : jd_P s al 104 b) : jd_B s al s b := by
  match b, h with
  | none, h =>
    intro o ho
    by_cases hm : o.1 ∈ al
    · exact hm
    · have h1 := h o.1 (by have := hs o ho; omega) hm
      have h2 := jd_n_pos ho
      omega
  | some b, ⟨h1, h2, h3, h4⟩ =>
    obtain ⟨o, ho, e⟩ := List.countP_pos_iff.mp h3
    exact ⟨⟨o, ho, by simpa using e⟩, h2, fun q hq hn => h4 q.1 (by have := hs q hq; omega) hn⟩
def mo_v (b : Option Nat) : Int32 := match b with
  | none => -1
  | some x => nI x
def mo_of (i : o_I) (y : Nat) (s : jd_s) : Prop := ∀ c, c < 104 → i (y + 25) c = nI (jd_n s c)
def ma_F (y : Nat) (i j : o_I) : Prop := ∀ a k, ¬ (a = y ∧ k = 31) → a ≠ y + 24 → j a k = i a k
theorem m_addAllele {G : o_G} {d : Nat} {i : o_I} {r : o_R} {post : o_I → Prop} {y : Nat} {s : jd_s} {al : List Nat} (hm : ly_m G r y) (hs : ∀ o ∈ s, o.1 ≤ 103) (h128 : s.length ≤ 128) (hof : mo_of i y s) (hA : ma_S i y al) (h2 : al.length ≤ 2) (h : ∀ j, ma_S j y (jd_add s al) → ma_F y i j → post j) : SpV G (d + 1) mX10_addAllele [.ref y] post i r := by
  obtain ⟨eA, ZA⟩ := hm.2 32 24 1 3 rfl (by decide)
  obtain ⟨eO, ZO⟩ := hm.2 33 25 1 104 rfl (by decide)
  obtain ⟨a1, a2⟩ := hA
  have e01 : ¬ (1 : Int32) = 0 := by decide
  have loop : ∀ m c b, c + m = 104 → jd_P s al c b → (∀ x, b = some x → x < 104) → Ok G (d + 1) mX10_addAllele (fun v j q => q = r ∧ v = none ∧ post j) 4 [some (.ref y), some (.int (mo_v b)), some (.int (nI c)), none, none] [] i r := by
    intro m
    induction m with
    | zero =>
      intro c b hc hP hb
      have : c = 104 := by omega
      subst this
      have hbest : jd_best s al = b := jd_B_one (jd_best_B s al) (jd_P_B hs hP)
      refine sX10_addAllele_4 y _ _ ⟨fun _ => ⟨fun hn => ?_, fun hn => ?_⟩, fun w => absurd (by decide) w⟩
      · have : b = none := by
          match b, hn, hb with
          | none, _, _ => rfl
          | some x, hn, hb => exact absurd hn (nI_pos (n := x) (by have := hb x rfl; omega))
        refine o_rv (h i ?_ (fun _ _ _ _ => rfl))
        unfold jd_add
        rw [hbest, this]
        show ma_S i y (al ++ [])
        rw [List.append_nil]
        exact ⟨a1, a2⟩
      · match b, hn, hb, hbest with
        | none, hn, _, _ => exact absurd (by decide) hn
        | some x, hn, hb, hbest =>
          have hx := hb x rfl
          rw [a1, eA, ZA.len, nI_clamp (by omega)]
          refine ⟨hm.1, ZA.Y, vp_in_nI (by omega) (by decide), fun i6 f6 i7 f7 => o_rv (h i7 ?_ (fun a k b1 b2 => ?_))⟩
          · unfold jd_add
            rw [hbest]
            refine ⟨?_, fun k c hk => ?_⟩
            · rw [f7, o_up_s, f6, o_up_a (by omega), a1, nI_1, List.length_append]
              rfl
            · rw [f7, o_up_a (by omega), f6]
              by_cases ek : k = al.length
              · subst ek
                rw [List.getElem?_append_right (Nat.le_refl _), Nat.sub_self] at hk
                have : x = c := by simpa using hk
                subst this
                exact ⟨by omega, by rw [o_up_s]; rfl⟩
              · have hkl : k < al.length := by
                  have := (List.getElem?_eq_some_iff.mp hk).1
                  rw [List.length_append] at this
                  simp at this
                  omega
                rw [List.getElem?_append_left hkl] at hk
                rw [o_up_k ek]
                exact a2 k c hk
          · have k1 : i7 a k = i6 a k := by
              rw [f7]
              by_cases e : a = y
              · rw [o_up_k (fun z => b1 ⟨e, z⟩)]
              · rw [o_up_a e]
            rw [k1, f6, o_up_a b2]
    | succ m ih =>
      intro c b hc hP hb
      refine sX10_addAllele_4 y _ _ ⟨fun w => absurd w (nI_ge (b := 104) (by omega) (by decide)), fun _ => ?_⟩
      -- the inner loop: is c an allele?
      have inner : ∀ t a, a + t = al.length → Ok G (d + 1) mX10_addAllele (fun v j q => q = r ∧ v = none ∧ post j) 15 [some (.ref y), some (.int (mo_v b)), some (.int (nI c)), some (.int (if c ∈ al.take a then 1 else 0)), some (.int (nI a))] [] i r := by
        intro t
        induction t with
        | zero =>
          intro a ha
          have hta : al.take a = al := List.take_of_length_le (by omega)
          rw [hta]
          have hof1 := hof c (by omega)
          have hnc := jd_n_le s c
          have zc : nI (jd_n s c) ≤ 0 ↔ jd_n s c ≤ 0 := nI_leI (b := 0) (by omega) (by decide)
          refine sX10_addAllele_15 y _ _ _ _ ?_
          rw [a1, eO, ZO.len, nI_clamp (n := c) (by omega), hof1]
          refine ⟨hm.1, fun _ => ⟨⟨fun _ => trivial, fun _ => ⟨ZO.Y, vp_in_nI (by omega) (by decide), fun _ => trivial, fun _ => ⟨fun _ => trivial, fun hn => ⟨?_, trivial⟩⟩⟩⟩, fun x10 e10 x11 e11 => ?_⟩, fun w => absurd (nI_le (by omega) (by omega)) w⟩
          · match b, hn, hb with
            | none, hn, _ => exact absurd (by decide) hn
            | some x, hn, hb => exact vp_in_nI (hb x rfl) (by decide)
          · rw [e11, nI_1]
            by_cases hmem : c ∈ al
            · rw [if_pos hmem, if_neg e01] at e10
              rw [e10]
              refine ih (c + 1) b (by omega) ?_ hb
              match b, hP with
              | none, hP => exact fun x hx hn => hP x (by
                  rcases (show x < c ∨ x = c by omega) with w | w
                  · exact w
                  · exact absurd (w ▸ hmem) hn) hn
              | some b, ⟨p1, p2, p3, p4⟩ => exact ⟨by omega, p2, p3, fun x hx hn => p4 x (by
                  rcases (show x < c ∨ x = c by omega) with w | w
                  · exact w
                  · exact absurd (w ▸ hmem) hn) hn⟩
            · rw [if_neg hmem, if_pos rfl] at e10
              by_cases hz : jd_n s c ≤ 0
              · rw [if_pos (zc.mpr hz)] at e10
                rw [e10]
                refine ih (c + 1) b (by omega) ?_ hb
                match b, hP with
                | none, hP =>
                  intro x hx hn
                  rcases (show x < c ∨ x = c by omega) with w | w
                  · exact hP x w hn
                  · subst w
                    omega
                | some b, ⟨p1, p2, p3, p4⟩ =>
                  refine ⟨by omega, p2, p3, fun x hx hn => ?_⟩
                  rcases (show x < c ∨ x = c by omega) with w | w
                  · exact p4 x w hn
                  · subst w
                    omega
              · rw [if_neg (fun w => hz (zc.mp w))] at e10
                match b, hP, hb with
                | none, hP, hb =>
                  have e10 : x10 = nI c := by rw [e10, if_pos (by decide)]
                  rw [e10]
                  refine ih (c + 1) (some c) (by omega) ⟨by omega, hmem, by omega, fun x hx hn => ?_⟩ (fun x e => by cases e; omega)
                  rcases (show x < c ∨ x = c by omega) with w | w
                  · have := hP x w hn
                    omega
                  · subst w
                    exact Or.inr ⟨rfl, Nat.le_refl _⟩
                | some b, ⟨p1, p2, p3, p4⟩, hb =>
                  have hb1 := hb b rfl
                  have hnb := jd_n_le s b
                  have zb : nI (jd_n s c) ≤ nI (jd_n s b) ↔ jd_n s c ≤ jd_n s b := nI_leI (by omega) (by omega)
                  have e10 : x10 = if nI (jd_n s c) ≤ nI (jd_n s b) then nI b else nI c := by
                    rw [e10, show mo_v (some b) = nI b from rfl, if_neg (nI_pos (n := b) (by omega)), nI_clamp (n := b) (by omega), hof b hb1]
                  by_cases hle : jd_n s c ≤ jd_n s b
                  · rw [if_pos (zb.mpr hle)] at e10
                    rw [e10]
                    refine ih (c + 1) (some b) (by omega) ⟨by omega, p2, p3, fun x hx hn => ?_⟩ hb
                    rcases (show x < c ∨ x = c by omega) with w | w
                    · exact p4 x w hn
                    · subst w
                      omega
                  · rw [if_neg (fun w => hle (zb.mp w))] at e10
                    rw [e10]
                    refine ih (c + 1) (some c) (by omega) ⟨by omega, hmem, by omega, fun x hx hn => ?_⟩ (fun x e => by cases e; omega)
                    rcases (show x < c ∨ x = c by omega) with w | w
                    · have := p4 x w hn
                      omega
                    · subst w
                      exact Or.inr ⟨rfl, Nat.le_refl _⟩
        | succ t ih2 =>
          intro a ha
          have hal : a < al.length := by omega
          have hg : al[a]? = some al[a] := List.getElem?_eq_getElem hal
          obtain ⟨b1, b2⟩ := a2 a _ hg
          have zz : nI al[a] = nI c ↔ al[a] = c := nI_eq (by omega) (by omega)
          refine sX10_addAllele_15 y _ _ _ _ ?_
          rw [a1, eA, ZA.len, nI_clamp (n := a) (by omega), b2]
          refine ⟨hm.1, fun w => absurd w (nI_ge (by omega) (by omega)), fun _ => ⟨⟨fun _ => trivial, fun _ => ⟨ZA.Y, vp_in_nI (by omega) (by decide), trivial⟩⟩, fun x17 e17 x18 e18 => ?_⟩⟩
          have : x17 = if c ∈ al.take (a + 1) then 1 else 0 := by
            have ht : al.take (a + 1) = al.take a ++ [al[a]] := by rw [List.take_succ, hg]; rfl
            rw [e17, ht]
            by_cases w : c ∈ al.take a
            · rw [if_pos w, if_neg e01, if_pos (List.mem_append_left _ w)]
            · rw [if_neg w, if_pos rfl]
              by_cases w2 : al[a] = c
              · rw [if_pos (zz.mpr w2), if_pos (List.mem_append_right _ (by rw [w2]; exact List.mem_singleton.mpr rfl))]
              · rw [if_neg (fun q => w2 (zz.mp q)), if_neg (fun q => by
                  rcases List.mem_append.mp q with q | q
                  · exact w q
                  · exact w2 (List.mem_singleton.mp q).symm)]
          rw [this, e18, nI_1]
          exact ih2 (a + 1) (by omega)
      have := inner al.length 0 (by omega)
      rw [List.take_zero, if_neg (by simp)] at this
      exact this
  exact sp_of 4 (by decide +kernel) (Nat.le_of_ble_eq_true rfl) rfl (sX10_addAllele_0 y (loop 104 0 none (by omega) (fun x hx => absurd hx (Nat.not_lt_zero x)) (fun x e => by cases e)))

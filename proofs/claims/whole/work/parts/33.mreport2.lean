/-! THE REFERENCE: reported, siteThere -/
def md_S (i : o_I) (y lk p : Nat) (s : jd_s) (al : List Nat) : Prop := i y 28 = nI lk ∧ i y 29 = nI p ∧ i y 30 = nI s.length ∧ ma_S i y al ∧ mo_of i y s ∧ i y 35 = nI (jd_np al.length) ∧ (∀ k, k < jd_np al.length → i (y + 26) k = nI (jd_pk s al k)) ∧ i y 36 = nI (jd_ch (jd_pk s al) (jd_np al.length))
def md_F (y : Nat) (i j : o_I) : Prop := ∀ a k, ¬ (a = y ∧ 28 ≤ k ∧ k ≤ 36) → (a < y + 24 ∨ y + 26 < a) → j a k = i a k
theorem mo_D_F {i j : o_I} {y lk : Nat} {O : mo_O} (h : mo_D i y lk O) (hk : lk ≤ 1) (hF : md_F y i j) : mo_D j y lk O := ⟨by rw [hF _ _ (by omega) (by omega)]; exact h.1, fun k o ho => by rw [hF _ _ (by omega) (by omega), hF _ _ (by omega) (by omega), hF _ _ (by omega) (by omega)]; exact h.2 k o ho⟩
theorem jd_n_app (t : jd_s) (o : Nat × Nat) (x : Nat) : jd_n (t ++ [o]) x = jd_n t x + if o.1 = x then 1 else 0 := by
  unfold jd_n
  rw [List.countP_append, List.countP_cons]
  simp
theorem m_reported {G : o_G} {d : Nat} {i : o_I} {r : o_R} {post : Int32 → o_I → Prop} {y lk p ref : Nat} {O : mo_O} (hm : ly_m G r y) (hk1 : lk ≤ 1) (hD : mo_D i y lk O) (hok : mo_ok O) (hp : p < 48) (hr0 : lk = 0 → i (y + 3) p = nI ref) (hr1 : lk = 1 → ref = 0) (hr3 : ref ≤ 3)
    (h : ∀ j, md_S j y lk p (mo_at p O) (jd_al (mo_at p O) ref) → md_F y i j → post (if jd_ch (jd_pk (mo_at p O) (jd_al (mo_at p O) ref)) (jd_np (jd_al (mo_at p O) ref).length) = 0 then 0 else 1) j) : SpI G (d + 3) mX10_reported [.ref y, .int (nI lk), .int (nI p)] post i r := by
  obtain ⟨eA, ZA⟩ := hm.2 32 24 1 3 rfl (by decide)
  obtain ⟨eO, ZO⟩ := hm.2 33 25 1 104 rfl (by decide)
  obtain ⟨eP, ZP⟩ := hm.2 34 26 1 6 rfl (by decide)
  obtain ⟨eB, ZB⟩ := hm.2 3 3 1 48 rfl (by decide)
  obtain ⟨h128, hq⟩ := hok
  have zlk : nI lk = 0 ↔ lk = 0 := nI_eq (b := 0) (by omega) (by decide)
  generalize hs : mo_at p O = s at h
  have hs128 : s.length ≤ 128 := by rw [← hs]; exact Nat.le_trans (mo_at_len p O) h128
  have hsb : ∀ o ∈ s, o.1 ≤ 103 := fun o ho => by rw [← hs] at ho; exact (hq _ (mo_at_mem ho)).2.1
  have hsq : ∀ o ∈ s, o.2 ≤ 93 := fun o ho => by rw [← hs] at ho; exact (hq _ (mo_at_mem ho)).2.2
  obtain ⟨al1, al3⟩ := jd_al_len s ref
  generalize hal : jd_al s ref = al at h al1 al3
  have np6 : jd_np al.length ≤ 6 ∧ 1 ≤ jd_np al.length := by rcases jd_np_cases al1 al3 with ⟨-, e⟩ | ⟨-, e⟩ | ⟨-, e⟩ <;> omega
  have pkb : ∀ k, jd_pk s al k ≤ 20000 := fun k => by
    have h1 := jd_pen_le (al.getD (jd_fi k) 0) (al.getD (jd_se k) 0) s (jd_base (jd_fi k) (jd_se k)) hsq
    have h2 := jd_base_le (jd_fi k) (jd_se k)
    unfold jd_pk
    omega
  -- the pairs
  have loopC : ∀ m k j, k + m = jd_np al.length → md_F y i j → j y 28 = nI lk → j y 29 = nI p → j y 30 = nI s.length → ma_S j y al → mo_of j y s → j y 35 = nI (jd_np al.length) → (∀ q, q < k → j (y + 26) q = nI (jd_pk s al q)) → j y 36 = nI (jd_ch (jd_pk s al) k) → Ok G (d + 3) mX10_reported (fun v j w => w = r ∧ ∃ x, v = some (.int x) ∧ post x j) 155 [some (.ref y), none, none, some (.int (nI k))] [] j r := by
    intro m
    induction m with
    | zero =>
      intro k j hk hF g28 g29 g30 gA gof g35 gP g36
      have hk : k = jd_np al.length := by omega
      subst hk
      refine sX10_reported_155 y _ ⟨hm.1, fun _ x4 e4 => ?_, fun w => absurd (by rw [g35]; exact nI_le (by omega) (by omega)) w⟩
      have hfin := h j ⟨g28, g29, g30, gA, gof, g35, gP, g36⟩ hF
      have hch := jd_ch_le (jd_pk s al) (jd_np al.length)
      generalize jd_ch (jd_pk s al) (jd_np al.length) = ch at *
      have zc : nI ch ≤ 0 ↔ ch ≤ 0 := nI_leI (b := 0) (by omega) (by decide)
      rw [g36] at e4
      by_cases w : ch = 0
      · rw [if_pos (zc.mpr (by omega))] at e4
        rw [if_pos w] at hfin
        rw [e4]
        exact ⟨Or.inl rfl, o_ri hfin⟩
      · rw [if_neg (fun q => w (by have := zc.mp q; omega))] at e4
        rw [if_neg w] at hfin
        rw [e4]
        exact ⟨Or.inr rfl, o_ri hfin⟩
    | succ m ih =>
      intro k j hk hF g28 g29 g30 gA gof g35 gP g36
      have hch := jd_ch_le (jd_pk s al) k
      refine sX10_reported_155 y _ ⟨hm.1, fun w => absurd w (by rw [g35]; exact nI_ge (by omega) (by omega)), fun _ => ?_⟩
      refine m_penaltyOf (lk := lk) (p := p) (O := O) (al := al) hm hk1 ⟨g28, mo_D_F hD hk1 hF⟩ ⟨h128, hq⟩ gA al1 al3 hp g29 (by omega) ?_
      rw [hs, eP, ZP.len, nI_clamp (n := k) (by omega)]
      refine ⟨ZP.Y, vp_in_nI (by omega) (by decide), fun i10 f10 => ?_⟩
      have c36 : i10 y 36 = nI (jd_ch (jd_pk s al) k) := by rw [f10, o_up_a (by omega)]; exact g36
      have cP : ∀ q, q < k + 1 → i10 (y + 26) q = nI (jd_pk s al q) := fun q hq' => by
        rw [f10]
        by_cases e : q = k
        · rw [e, o_up_s]
        · rw [o_up_k e]
          exact gP q (by omega)
      rw [c36, nI_clamp (n := jd_ch (jd_pk s al) k) (by omega), cP (jd_ch (jd_pk s al) k) (by omega), cP k (by omega)]
      refine ⟨vp_in_nI (by omega) (by decide), fun x13 e13 i14 f14 x15 e15 => ?_⟩
      have zz : nI (jd_pk s al (jd_ch (jd_pk s al) k)) ≤ nI (jd_pk s al k) ↔ jd_pk s al (jd_ch (jd_pk s al) k) ≤ jd_pk s al k := nI_leI (by have := pkb (jd_ch (jd_pk s al) k); omega) (by have := pkb k; omega)
      have hx : x13 = nI (jd_ch (jd_pk s al) (k + 1)) := by
        rw [e13]
        show _ = nI (if jd_pk s al k < jd_pk s al (jd_ch (jd_pk s al) k) then k else jd_ch (jd_pk s al) k)
        by_cases w : jd_pk s al k < jd_pk s al (jd_ch (jd_pk s al) k)
        · rw [if_pos w, if_neg (fun q => by have := zz.mp q; omega)]
        · rw [if_neg w, if_pos (zz.mpr (by omega))]
      rw [e15, nI_1]
      have keep : ∀ a q, ¬ (a = y ∧ q = 36) → a ≠ y + 26 → i14 a q = j a q := fun a q n1 n2 => by
        have : i14 a q = i10 a q := by
          rw [f14]
          by_cases e : a = y
          · rw [o_up_k (fun z => n1 ⟨e, z⟩)]
          · rw [o_up_a e]
        rw [this, f10, o_up_a n2]
      refine ih (k + 1) i14 (by omega) (fun a q n1 n2 => by rw [keep a q (by omega) (by omega)]; exact hF a q n1 n2) (by rw [keep _ _ (by omega) (by omega)]; exact g28) (by rw [keep _ _ (by omega) (by omega)]; exact g29) (by rw [keep _ _ (by omega) (by omega)]; exact g30) ⟨by rw [keep _ _ (by omega) (by omega)]; exact gA.1, fun q c hc => by rw [keep _ _ (by omega) (by omega)]; exact gA.2 q c hc⟩ (fun c hc => by rw [keep _ _ (by omega) (by omega)]; exact gof c hc) (by rw [keep _ _ (by omega) (by omega)]; exact g35) (fun q hq' => by rw [f14, o_up_a (by omega)]; exact cP q hq') (by rw [f14, o_up_s]; exact hx)
  -- what is seen at p
  have loopB : ∀ (u : mo_O) k (t : jd_s) j, O.drop k = u → k ≤ O.length → t ++ mo_at p u = s → md_F y i j → j y 28 = nI lk → j y 29 = nI p → j y 30 = nI t.length → mo_of j y t → Ok G (d + 3) mX10_reported (fun v j w => w = r ∧ ∃ x, v = some (.int x) ∧ post x j) 38 [some (.ref y), some (.int (nI lk)), some (.int (nI p)), some (.int (nI k))] [] j r := by
    intro u
    induction u with
    | nil =>
      intro k t j hu hk ht hF g28 g29 g30 gof
      have hkl : k = O.length := by
        have := congrArg List.length hu
        rw [List.length_drop] at this
        simp at this
        omega
      have ht : t = s := by rw [← ht]; exact (List.append_nil t).symm
      subst ht
      refine sX10_reported_38 y _ _ _ ⟨hm.1, m_seenMany hm hk1 ⟨g28, mo_D_F hD hk1 hF⟩ ⟨fun _ => ?_, fun w => absurd (nI_le (by omega) (by omega)) w⟩⟩
      rw [eB, ZB.len, eA, ZA.len, nI_clamp (n := p) (by omega)]
      refine ⟨⟨fun _ => ⟨ZB.Y, vp_in_nI (by omega) (by decide), trivial⟩, fun _ => trivial⟩, fun x7 e7 => ⟨ZA.Y, vp_in_nI (n := 0) (by decide) (by decide), fun i10 f10 i11 f11 => ?_⟩⟩
      have hx7 : x7 = nI ref := by
        rw [e7]
        rcases (show lk = 0 ∨ lk = 1 by omega) with w | w
        · rw [if_pos (zlk.mpr w), hF _ _ (by omega) (by omega), hr0 w]
        · rw [if_neg (fun q => by have := zlk.mp q; omega), hr1 w]
          rfl
      have keep : ∀ a q, ¬ (a = y ∧ q = 31) → a ≠ y + 24 → i11 a q = j a q := fun a q n1 n2 => by
        have : i11 a q = i10 a q := by
          rw [f11]
          by_cases e : a = y
          · rw [o_up_k (fun z => n1 ⟨e, z⟩)]
          · rw [o_up_a e]
        rw [this, f10, o_up_a n2]
      have A1 : ma_S i11 y [ref] := ⟨by rw [f11, o_up_s]; rfl, fun q c hc => by
        cases q with
        | zero =>
          have : ref = c := by simpa using hc
          subst this
          refine ⟨by omega, ?_⟩
          rw [f11, o_up_a (by omega), f10, hx7]
          exact o_up_s
        | succ q => simp at hc⟩
      refine m_addAllele (s := t) (al := [ref]) hm hsb hs128 (fun c hc => by rw [keep _ _ (by omega) (by omega)]; exact gof c hc) A1 (by simp) (fun i12 A2 F2 => ?_)
      refine m_addAllele (s := t) (al := jd_add t [ref]) hm hsb hs128 (fun c hc => by rw [F2 _ _ (by omega) (by omega), keep _ _ (by omega) (by omega)]; exact gof c hc) A2 (by have := jd_add_len t [ref]; simp at this; omega) (fun i13 A3 F3 => ?_)
      intro x16 e16 i17 f17 i18 f18
      have A3 : ma_S i13 y al := by rw [← hal]; exact A3
      have k13 : ∀ a q, ¬ (a = y ∧ q = 31) → a ≠ y + 24 → i13 a q = j a q := fun a q n1 n2 => by rw [F3 a q n1 n2, F2 a q n1 n2, keep a q n1 n2]
      have k18 : ∀ a q, ¬ (a = y ∧ (q = 35 ∨ q = 36)) → i18 a q = i13 a q := fun a q n1 => by
        rw [f18]
        by_cases e : a = y
        · rw [o_up_k (fun z => n1 ⟨e, Or.inr z⟩), f17, o_up_k (fun z => n1 ⟨e, Or.inl z⟩)]
        · rw [o_up_a e, f17, o_up_a e]
      have hx16 : x16 = nI (jd_np al.length) := by
        rw [e16, A3.1]
        rcases jd_np_cases al1 al3 with ⟨e, f⟩ | ⟨e, f⟩ | ⟨e, f⟩ <;> rw [f, e] <;> decide
      refine loopC (jd_np al.length) 0 i18 (by omega) (fun a q n1 n2 => by rw [k18 a q (by omega), k13 a q (by omega) (by omega)]; exact hF a q n1 n2) (by rw [k18 _ _ (by omega), k13 _ _ (by omega) (by omega)]; exact g28) (by rw [k18 _ _ (by omega), k13 _ _ (by omega) (by omega)]; exact g29) (by rw [k18 _ _ (by omega), k13 _ _ (by omega) (by omega)]; exact g30) ⟨by rw [k18 _ _ (by omega)]; exact A3.1, fun q c hc => by rw [k18 _ _ (by omega)]; exact A3.2 q c hc⟩ (fun c hc => by rw [k18 _ _ (by omega), k13 _ _ (by omega) (by omega)]; exact gof c hc) ?_ (fun q hq' => absurd hq' (Nat.not_lt_zero q)) ?_
      · rw [f18, o_up_k (by decide), f17, o_up_s]
        exact hx16
      · rw [f18, o_up_s]
        rfl
    | cons o u ih =>
      intro k t j hu hk ht hF g28 g29 g30 gof
      obtain ⟨g1, g2, g3, g4⟩ := mo_drop hu
      obtain ⟨o1, o2, o3⟩ := hq o g4
      have zp : nI o.1 = nI p ↔ o.1 = p := nI_eq (by omega) (by omega)
      have hO := mo_D_F hD hk1 hF
      have htl : t.length ≤ 128 := by
        have := congrArg List.length ht
        rw [List.length_append] at this
        omega
      rw [mo_at_cons] at ht
      refine sX10_reported_38 y _ _ _ ⟨hm.1, m_seenMany hm hk1 ⟨g28, hO⟩ ⟨fun w => absurd w (nI_ge g1 (by omega)), fun _ => m_placeOf hm hk1 ⟨g28, hO⟩ h128 g2 ⟨fun hne x23 e23 => ?_, fun hpe => m_codeAt hm hk1 ⟨g28, hO⟩ h128 g2 ?_⟩⟩⟩
      · rw [if_neg (fun w => hne (zp.mpr w))] at ht
        rw [e23, nI_1]
        exact ih (k + 1) t j g3 (by omega) ht hF g28 g29 g30 gof
      · rw [if_pos (zp.mp hpe)] at ht
        rw [eO, ZO.len, nI_clamp (n := o.2.1) (by omega), gof o.2.1 (by omega)]
        refine ⟨ZO.Y, vp_in_nI (by omega) (by decide), fun i27 f27 i28 f28 x29 e29 => ?_⟩
        have keep : ∀ a q, ¬ (a = y ∧ q = 30) → a ≠ y + 25 → i28 a q = j a q := fun a q n1 n2 => by
          have : i28 a q = i27 a q := by
            rw [f28]
            by_cases e : a = y
            · rw [o_up_k (fun z => n1 ⟨e, z⟩)]
            · rw [o_up_a e]
          rw [this, f27, o_up_a n2]
        rw [e29, nI_1]
        refine ih (k + 1) (t ++ [o.2]) i28 g3 (by omega) (by rw [List.append_assoc]; exact ht) (fun a q n1 n2 => by rw [keep a q (by omega) (by omega)]; exact hF a q n1 n2) (by rw [keep _ _ (by omega) (by omega)]; exact g28) (by rw [keep _ _ (by omega) (by omega)]; exact g29) ?_ (fun c hc => ?_)
        · rw [f28, o_up_s, f27, o_up_a (by omega), g30, nI_1, List.length_append]
          rfl
        · rw [f28, o_up_a (by omega), f27, jd_n_app]
          by_cases e : c = o.2.1
          · rw [e, o_up_s, if_pos rfl, nI_1]
          · rw [o_up_k e, if_neg (fun z => e z.symm)]
            exact gof c hc
  -- clear
  have loopA : ∀ m c j, c + m = 104 → md_F y i j → j y 28 = nI lk → j y 29 = nI p → j y 30 = 0 → (∀ x, x < c → j (y + 25) x = 0) → Ok G (d + 3) mX10_reported (fun v j w => w = r ∧ ∃ x, v = some (.int x) ∧ post x j) 17 [some (.ref y), some (.int (nI lk)), some (.int (nI p)), some (.int (nI c))] [] j r := by
    intro m
    induction m with
    | zero =>
      intro c j hc hF g28 g29 g30 g0
      have : c = 104 := by omega
      subst this
      refine sX10_reported_17 y _ _ _ ⟨fun _ => ?_, fun w => absurd (by decide) w⟩
      exact loopB O 0 [] j rfl (Nat.zero_le _) hs hF g28 g29 g30 (fun c hc => by rw [g0 c hc]; rfl)
    | succ m ih =>
      intro c j hc hF g28 g29 g30 g0
      refine sX10_reported_17 y _ _ _ ⟨fun w => absurd w (nI_ge (b := 104) (by omega) (by decide)), fun _ => ?_⟩
      rw [eO, ZO.len, nI_clamp (n := c) (by omega)]
      refine ⟨hm.1, ZO.Y, vp_in_nI (by omega) (by decide), fun i5 f5 x6 e6 => ?_⟩
      rw [e6, nI_1]
      refine ih (c + 1) i5 (by omega) (fun a q n1 n2 => by rw [f5, o_up_a (by omega)]; exact hF a q n1 n2) (by rw [f5, o_up_a (by omega)]; exact g28) (by rw [f5, o_up_a (by omega)]; exact g29) (by rw [f5, o_up_a (by omega)]; exact g30) (fun x hx => ?_)
      rw [f5]
      by_cases e : x = c
      · rw [e, o_up_s]
      · rw [o_up_k e]
        exact g0 x (by omega)
  refine sp_of 1 (by decide +kernel) (Nat.le_of_ble_eq_true rfl) rfl (sX10_reported_0 y _ _ ⟨hm.1, ?_, fun i2 f2 i4 f4 i5 f5 => ?_⟩)
  · rcases (show lk = 0 ∨ lk = 1 by omega) with rfl | rfl
    · exact Or.inl rfl
    · exact Or.inr rfl
  · refine loopA 104 0 i5 (by omega) (fun a q n1 n2 => ?_) ?_ ?_ ?_ (fun x hx => absurd hx (Nat.not_lt_zero x))
    · rw [f5, f4, f2]
      by_cases e : a = y
      · rw [o_up_k (by omega), o_up_k (by omega), o_up_k (by omega)]
      · rw [o_up_a e, o_up_a e, o_up_a e]
    · rw [f5, o_up_k (by decide), f4, o_up_k (by decide), f2, o_up_s]
    · rw [f5, o_up_k (by decide), f4, o_up_s]
    · rw [f5, o_up_s]
/-- is a line there? -/
def jd_yes (s : jd_s) (ref : Nat) : Bool := !decide (jd_ch (jd_pk s (jd_al s ref)) (jd_np (jd_al s ref).length) = 0)
theorem m_siteThere {G : o_G} {d : Nat} {i : o_I} {r : o_R} {post : Int32 → o_I → Prop} {y lk p ref len : Nat} {O : mo_O} (hm : ly_m G r y) (hk1 : lk ≤ 1) (hD : mo_D i y lk O) (hok : mo_ok O) (hlen : i y 2 = nI len) (hl0 : 0 < len) (hl48 : len ≤ 48) (hp : p < len) (hr0 : lk = 0 → i (y + 3) p = nI ref) (hr1 : lk = 1 → ref = 0) (hr3 : ref ≤ 3)
    (h0 : lk = 1 → len ≤ p + 1 → post 0 i)
    (h : (lk = 1 → p + 1 < len) → ∀ j, md_S j y lk p (mo_at p O) (jd_al (mo_at p O) ref) → md_F y i j → post (if jd_yes (mo_at p O) ref = true then 1 else 0) j) : SpI G (d + 4) mX10_siteThere [.ref y, .int (nI lk), .int (nI p)] post i r := by
  have zlk : nI lk = 0 ↔ lk = 0 := nI_eq (b := 0) (by omega) (by decide)
  have run : (lk = 1 → p + 1 < len) → SpI G (d + 3) mX10_reported [.ref y, .int (nI lk), .int (nI p)] (fun x3 i3 => ∀ x5 : Int32, x5 = (if x3 = 0 then 0 else 1) → (x5 = 0 ∨ x5 = 1) ∧ (r = r ∧ ∃ x, (some (.int x5) : Option Value) = some (.int x) ∧ post x i3)) i r := fun hl => by
    refine m_reported hm hk1 hD hok (by omega) hr0 hr1 hr3 (fun j S F x5 e5 => ?_)
    have := h hl j S F
    unfold jd_yes at this
    by_cases w : jd_ch (jd_pk (mo_at p O) (jd_al (mo_at p O) ref)) (jd_np (jd_al (mo_at p O) ref).length) = 0
    · rw [if_pos w, if_pos rfl] at e5
      rw [if_neg (by simp [w])] at this
      rw [e5]
      exact ⟨Or.inl rfl, o_ri this⟩
    · rw [if_neg w, if_neg (by decide)] at e5
      rw [if_pos (by simp [w])] at this
      rw [e5]
      exact ⟨Or.inr rfl, o_ri this⟩
  refine sp_of 0 (by decide +kernel) (Nat.le_of_ble_eq_true rfl) rfl (sX10_siteThere_0 y _ _ ⟨fun z => ⟨hm.1, run (fun w => by have := zlk.mp z; omega)⟩, fun z => ⟨hm.1, fun hle => ?_, fun hle => run (fun _ => ?_)⟩⟩)
  · rw [hlen, nI_m1 hl0, nI_leI (by omega) (by omega)] at hle
    exact o_ri (h0 (by rcases (show lk = 0 ∨ lk = 1 by omega) with w | w; exact absurd (zlk.mpr w) z; exact w) (by omega))
  · rw [hlen, nI_m1 hl0, nI_leI (by omega) (by omega)] at hle
    omega

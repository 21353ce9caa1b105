/-! seen, links, length, letter; the reference's count of sites -/
theorem m_sites {G : o_G} {d : Nat} {i : o_I} {r : o_R} {post : Int32 → o_I → Prop} {y len : Nat} {OB OK : mo_O} {nm : List Nat} {f : Nat → Nat} (hm : ly_m G r y) (hD : ms_D i y OB OK) (hok : sw_ok len OB OK) (hN : mn_S i y nm len f)
    (h : ∀ j, md_F y i j → post (nI (tw_cnt len f (fun p => mo_at p OB) (fun p => mo_at p OK) len)) j) : Ok G (d + 5) mX10_call (fun v j q => q = r ∧ ∃ x, v = some (.int x) ∧ post x j) 106 [some (.ref y), none, none, some (.int (nI 0)), some (.int (nI 0))] [] i r := by
  have h48 := hok.1
  generalize hCf : tw_cnt len f (fun p => mo_at p OB) (fun p => mo_at p OK) = CN at h
  have cst : ∀ p, CN (p + 1) = CN p + jd_b1 (jd_yes (mo_at p OB) (f p)) + (if p + 1 < len then jd_b1 (jd_yes (mo_at p OK) 0) else 0) := fun p => by rw [← hCf]; rfl
  have tr : ∀ {a b c : o_I}, md_F y a b → md_F y b c → md_F y a c := fun {a b c} h1 h2 q k n m => by rw [h2 q k n m, h1 q k n m]
  have loop : ∀ m p j, p + m = len → md_F y i j → Ok G (d + 5) mX10_call (fun v j q => q = r ∧ ∃ x, v = some (.int x) ∧ post x j) 106 [some (.ref y), none, none, some (.int (nI (CN p))), some (.int (nI p))] [] j r := by
    intro m
    induction m with
    | zero =>
      intro p j hp F
      have hp : p = len := by omega
      subst hp
      exact sX10_call_106 y _ _ ⟨hm.1, fun _ => o_ri (h j F), fun q => absurd (by rw [(mv_mn hN (mv_md F)).2.1]; exact nI_le (by omega) (by omega)) q⟩
    | succ m ih =>
      intro p j hp F
      have hpl : p < len := by omega
      have b01 : ∀ b : Bool, (if (if b = true then (1 : Int32) else 0) = 0 then (0 : Int32) else 1) = nI (jd_b1 b) := fun b => by cases b <;> rfl
      refine sX10_call_106 y _ _ ⟨hm.1, fun q => absurd q (by rw [(mv_mn hN (mv_md F)).2.1]; exact nI_ge hpl (by omega)), fun _ => ?_⟩
      have MF := mv_md F
      refine m_there (lk := 0) (OB := OB) (OK := OK) hm (by decide) ⟨mv_mo hD.1 (by decide) MF, mv_mo hD.2 (by decide) MF⟩ hok (mv_mn hN MF) hpl (fun e => by omega) (fun _ j3 L3 G3 x5 e5 x6 e6 => ?_)
      have e5 : x5 = nI (jd_b1 (jd_yes (mo_at p OB) (f p))) := by rw [e5]; exact b01 _
      rw [e5, nI_add] at e6
      have F3 := tr F G3
      have MF3 := mv_md F3
      refine m_there (lk := 1) (OB := OB) (OK := OK) hm (by decide) ⟨mv_mo hD.1 (by decide) MF3, mv_mo hD.2 (by decide) MF3⟩ hok (mv_mn hN MF3) hpl (fun _ hle x9 e9 x10 e10 x11 e11 => ?_) (fun hl j4 L4 G4 x9 e9 x10 e10 x11 e11 => ?_)
      · rw [if_pos rfl] at e9
        have : x10 = nI (CN (p + 1)) := by
          rw [e10, e6, e9, Int32.add_zero, cst p, if_neg (by omega)]
          rfl
        rw [this, e11, nI_1]
        exact ih (p + 1) j3 (by omega) F3
      · have e9 : x9 = nI (jd_b1 (jd_yes (mo_at p OK) 0)) := by rw [e9]; exact b01 _
        have : x10 = nI (CN (p + 1)) := by rw [e10, e6, e9, nI_add, cst p, if_pos (hl rfl)]
        rw [this, e11, nI_1]
        exact ih (p + 1) j4 (by omega) (tr F3 G4)
  have := loop len 0 i (by omega) (fun _ _ _ _ => rfl)
  rw [show CN 0 = 0 by rw [← hCf]; rfl] at this
  exact this
/-- bases seen at p, links of a kind -/
def sn_f (O : mo_O) (p b : Int32) : Nat := O.countP (fun o => nI o.1 == p && nI o.2.1 == b)
def sl_f (O : mo_O) (p kd : Int32) : Nat := O.countP (fun o => nI o.1 == p && nI (jd_kd o.2.1) == kd)
theorem sn_f_cons (o : Nat × Nat × Nat) (O : mo_O) (p b : Int32) : sn_f (o :: O) p b = sn_f O p b + if nI o.1 = p ∧ nI o.2.1 = b then 1 else 0 := by
  unfold sn_f
  rw [List.countP_cons]
  simp
theorem sl_f_cons (o : Nat × Nat × Nat) (O : mo_O) (p b : Int32) : sl_f (o :: O) p b = sl_f O p b + if nI o.1 = p ∧ nI (jd_kd o.2.1) = b then 1 else 0 := by
  unfold sl_f
  rw [List.countP_cons]
  simp
theorem sn_f_at {O : mo_O} {p c : Nat} (hO : ∀ o ∈ O, o.1 ≤ 47 ∧ o.2.1 ≤ 127) (hp : p < 48) (hc : c ≤ 127) : sn_f O (nI p) (nI c) = jd_n (mo_at p O) c := by
  induction O with
  | nil => rfl
  | cons o O ih =>
    rw [sn_f_cons, ih (fun q hq => hO q (List.mem_cons_of_mem _ hq)), mo_at_cons]
    have ho := hO o List.mem_cons_self
    have z1 : nI o.1 = nI p ↔ o.1 = p := nI_eq (by omega) (by omega)
    have z2 : nI o.2.1 = nI c ↔ o.2.1 = c := nI_eq (by omega) (by omega)
    by_cases e : o.1 = p
    · rw [if_pos e, jd_n_cons]
      by_cases e2 : o.2.1 = c
      · rw [if_pos ⟨z1.mpr e, z2.mpr e2⟩, if_pos e2]
      · rw [if_neg (fun q => e2 (z2.mp q.2)), if_neg e2]
    · rw [if_neg e, if_neg (fun q => e (z1.mp q.1))]
      rfl
theorem sl_f_at {O : mo_O} {p : Nat} {kd : Int32} (hO : ∀ o ∈ O, o.1 ≤ 47) (hp : p < 48) : sl_f O (nI p) kd = jd_nk (mo_at p O) kd := by
  induction O with
  | nil => rfl
  | cons o O ih =>
    rw [sl_f_cons, ih (fun q hq => hO q (List.mem_cons_of_mem _ hq)), mo_at_cons]
    have ho := hO o List.mem_cons_self
    have z1 : nI o.1 = nI p ↔ o.1 = p := nI_eq (by omega) (by omega)
    by_cases e : o.1 = p
    · rw [if_pos e, jd_nk_cons]
      by_cases e2 : nI (jd_kd o.2.1) = kd
      · rw [if_pos ⟨z1.mpr e, e2⟩, if_pos e2]
      · rw [if_neg (fun q => e2 q.2), if_neg e2]
    · rw [if_neg e, if_neg (fun q => e (z1.mp q.1))]
      rfl
theorem sn_f_0 {O : mo_O} {p b : Int32} (h : ∀ o ∈ O, ¬ (nI o.1 = p ∧ nI o.2.1 = b)) : sn_f O p b = 0 := by
  unfold sn_f
  rw [List.countP_eq_zero]
  intro o ho
  simpa using h o ho
theorem sl_f_0 {O : mo_O} {p b : Int32} (h : ∀ o ∈ O, ¬ nI o.1 = p) : sl_f O p b = 0 := by
  unfold sl_f
  rw [List.countP_eq_zero]
  intro o ho
  have := h o ho
  simp [this]
/-- what was seen, also before the first call -/
def sw_o (len : Nat) (OB OK : mo_O) : Prop := len ≤ 48 ∧ (∀ o ∈ OB, o.1 < len ∧ o.2.1 < 4) ∧ (∀ o ∈ OK, o.1 < len ∧ lk_V o.2.1) ∧ ∀ p, jd_ok (mo_at p OB) ∧ jd_ok (mo_at p OK)
theorem c_seen {G : o_G} {d : Nat} {i : o_I} {r : o_R} {post : Int32 → o_I → Prop} {x pi jd tb sm len : Nat} {OB OK : mo_O} {p b : Int32} (hx : ly_x G r x pi jd tb sm) (hP : pi_O i pi OB OK) (hok : sw_o len OB OK) (hlen : i sm 3 = nI len) (h : post (nI (sn_f OB p b)) i) : SpI G (d + 2) mX0_seen [.ref x, .int p, .int b] post i r := by
  obtain ⟨hO, e5, hpi, e6, hj, e7, ht, e8, hsm, d1, d2, d3⟩ := hx
  obtain ⟨h48, hB, hK, hj8⟩ := hok
  refine sp_of 0 (by decide +kernel) (Nat.le_of_ble_eq_true rfl) rfl (sX0_seen_0 x p b ?_)
  rw [e8, e5, hlen, hpi.2.1, hpi.2.2.1.len]
  have zero : (∀ o ∈ OB, ¬ (nI o.1 = p ∧ nI o.2.1 = b)) → post 0 i := fun q => by
    rw [sn_f_0 q] at h
    exact h
  refine ⟨fun hn => o_ri (zero (fun o ho q => ?_)), fun hn => ⟨hO, hsm.1, fun hle => o_ri (zero (fun o ho q => ?_)), fun hle => ⟨fun hb => o_ri (zero (fun o ho q => ?_)), fun hb => ⟨fun hb4 => ?_, fun hb4 => o_ri (zero (fun o ho q => ?_))⟩⟩⟩⟩
  · rw [← q.1] at hn
    exact nI_pos (n := o.1) (by have := hB o ho; omega) hn
  · rw [← q.1] at hle
    exact nI_ge (hB o ho).1 (by omega) hle
  · rw [← q.2] at hb
    exact nI_pos (n := o.2.1) (by have := hB o ho; omega) hb
  · obtain ⟨P, hP1, rfl⟩ := nI_of hn
    obtain ⟨c, hc1, rfl⟩ := nI_of hb
    have hPl : P < len := Nat.lt_of_not_le (fun w => hle (nI_le w hP1))
    have hc4 : c < 4 := (nI_ltI (b := 4) hc1 (by decide)).mp hb4
    obtain ⟨s0, s1, t0, t1⟩ := hpi.2.2.2.2.2 P (by omega)
    rw [nI_clamp hP1, s0]
    refine ⟨hpi.1, hpi.2.2.1.Y, vp_in_nI (by omega) (by decide), t0.1, c_countOf t0 (hP P (by omega)).1 (hj8 P).1 (by omega) ?_⟩
    rw [sn_f_at (fun o ho => by have := hB o ho; omega) (by omega) (by omega)] at h
    exact o_ri h
  · rw [← q.2] at hb4
    exact hb4 (nI_lt (a := o.2.1) (b := 4) (hB o ho).2 (by decide))
theorem c_links {G : o_G} {d : Nat} {i : o_I} {r : o_R} {post : Int32 → o_I → Prop} {x pi jd tb sm len : Nat} {OB OK : mo_O} {p b : Int32} (hx : ly_x G r x pi jd tb sm) (hP : pi_O i pi OB OK) (hok : sw_o len OB OK) (hlen : i sm 3 = nI len) (h : post (nI (sl_f OK p b)) i) : SpI G (d + 3) mX0_links [.ref x, .int p, .int b] post i r := by
  obtain ⟨hO, e5, hpi, e6, hj, e7, ht, e8, hsm, d1, d2, d3⟩ := hx
  obtain ⟨h48, hB, hK, hj8⟩ := hok
  refine sp_of 0 (by decide +kernel) (Nat.le_of_ble_eq_true rfl) rfl (sX0_links_0 x p b ?_)
  rw [e8, e5, hlen, hpi.2.2.2.1, hpi.2.2.2.2.1.len]
  have zero : (∀ o ∈ OK, ¬ nI o.1 = p) → post 0 i := fun q => by
    rw [sl_f_0 q] at h
    exact h
  refine ⟨fun hn => o_ri (zero (fun o ho q => ?_)), fun hn => ⟨hO, hsm.1, fun hle => ?_, fun hle => o_ri (zero (fun o ho q => ?_))⟩⟩
  · rw [← q] at hn
    exact nI_pos (n := o.1) (by have := hK o ho; omega) hn
  · obtain ⟨P, hP1, rfl⟩ := nI_of hn
    have hPl : P < len := (nI_ltI hP1 (by omega)).mp hle
    obtain ⟨s0, s1, t0, t1⟩ := hpi.2.2.2.2.2 P (by omega)
    rw [nI_clamp hP1, s1]
    refine ⟨hpi.1, hpi.2.2.2.2.1.Y, vp_in_nI (by omega) (by decide), t1.1, c_countOfKind t1 (hP P (by omega)).2 (hj8 P).2 ?_⟩
    rw [sl_f_at (fun o ho => by have := hK o ho; omega) (by omega)] at h
    exact o_ri h
  · rw [← q] at hle
    exact hle (nI_lt (hK o ho).1 (by omega))
theorem c_length {G : o_G} {d : Nat} {i : o_I} {r : o_R} {post : Int32 → o_I → Prop} {x pi jd tb sm : Nat} {T : List Nat} (hx : ly_x G r x pi jd tb sm) (hS : tw_S i tb T) (h : post (nI T.length) i) : SpI G (d + 1) mX0_length [.ref x] post i r := by
  obtain ⟨hO, e5, hpi, e6, hj, e7, ht, -⟩ := hx
  refine sp_of 0 (by decide +kernel) (Nat.le_of_ble_eq_true rfl) rfl (sX0_length_0 x ?_)
  rw [e7, hS.1]
  exact ⟨hO, ht.1, o_ri h⟩
theorem c_letter {G : o_G} {d : Nat} {i : o_I} {r : o_R} {post : Int32 → o_I → Prop} {x pi jd tb sm : Nat} {T : List Nat} {w : Int32} (hx : ly_x G r x pi jd tb sm) (hS : tw_S i tb T) (hT : T.length ≤ 2229) (h : post (wo_f T w) i) : SpI G (d + 1) mX0_letter [.ref x, .int w] post i r := by
  obtain ⟨hO, e5, hpi, e6, hj, e7, ht, -⟩ := hx
  refine sp_of 0 (by decide +kernel) (Nat.le_of_ble_eq_true rfl) rfl (sX0_letter_0 x w ?_)
  rw [e7, hS.1, ht.2.1, ht.2.2.len]
  refine ⟨⟨fun _ => trivial, fun h0 => ⟨hO, ht.1, fun hlt => ⟨ht.2.2.Y, ?_, trivial⟩, fun _ => trivial⟩⟩, fun x7 e7' => ?_⟩
  · obtain ⟨k, hk, rfl⟩ := nI_of h0
    have := (nI_ltI hk (by omega)).mp hlt
    exact vp_in_nI (by omega) (by decide)
  · have : x7 = wo_f T w := by
      rw [e7']
      unfold wo_f
      by_cases h0 : w < 0
      · rw [if_pos h0, if_pos h0]
      · rw [if_neg h0, if_neg h0]
        obtain ⟨k, hk, rfl⟩ := nI_of h0
        have z : nI k < nI T.length ↔ k < T.length := nI_ltI hk (by omega)
        rw [nI_clamp hk]
        by_cases e : k < T.length
        · rw [if_pos (z.mpr e), (hS.2 k _ (getD_some e)).2, getD_some e]
          rfl
        · rw [if_neg (fun q => e (z.mp q)), List.getElem?_eq_none (by omega)]
          rfl
    rw [this]
    exact o_ri h

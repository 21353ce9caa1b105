/-! Judge.weigh, firstChosen, secondChosen -/
def jg_S (i : o_I) (jd : Nat) (s : jd_s) (al : List Nat) : Prop := ja_S i jd s al ∧ i jd 6 = nI s.length ∧ i jd 4 = nI (jd_np al.length) ∧ (∀ k, k < jd_np al.length → i (jd + 3) k = nI (jd_pk s al k)) ∧ i jd 5 = nI (jd_ch (jd_pk s al) (jd_np al.length))
def jg_F (jd : Nat) (i j : o_I) : Prop := ∀ a k, (a < jd ∨ jd + 3 < a) → j a k = i a k
theorem jd_tb {k : Nat} : o_tb 0 k = nI (jd_fi k) ∧ o_tb 1 k = nI (jd_se k) := ⟨rfl, rfl⟩
theorem jd_ch_lt (f : Nat → Nat) {n : Nat} (h : 1 ≤ n) : jd_ch f n < n := by
  have := jd_ch_le f n
  omega
theorem jd_np6 {n : Nat} (h1 : 1 ≤ n) (h3 : n ≤ 3) : 1 ≤ jd_np n ∧ jd_np n ≤ 6 := by
  rcases jd_np_cases h1 h3 with ⟨-, e⟩ | ⟨-, e⟩ | ⟨-, e⟩ <;> omega
theorem c_weigh {G : o_G} {d : Nat} {i : o_I} {r : o_R} {post : o_I → Prop} {jd st ref : Nat} {s : jd_s} (hcs : o_cst G) (hj : ly_jd G r jd) (hst : ly_st G r st) (hd : st + 3 ≤ jd) (hS : st_S i st (jd_l s)) (hs : jd_ok s) (hr : ref ≤ 127)
    (h : ∀ j, jg_S j jd s (jd_al s ref) → jg_F jd i j → post j) : SpV G (d + 4) mX2_weigh [.ref jd, .ref st, .int (nI ref)] post i r := by
  obtain ⟨h8, hq⟩ := hs
  have e3 := hj.2.2.2.2.2.1
  have Z3 := hj.2.2.2.2.2.2
  obtain ⟨al1, al3⟩ := jd_al_len s ref
  have pkb : ∀ k, jd_pk s (jd_al s ref) k ≤ 784 := fun k => jd_pk_le (fun o ho => (hq o ho).2) h8
  have loop : ∀ m k j, k + m = jd_np (jd_al s ref).length → jg_F jd i j → ja_S j jd s (jd_al s ref) → j jd 6 = nI s.length → j jd 4 = nI (jd_np (jd_al s ref).length) → (∀ q, q < k → j (jd + 3) q = nI (jd_pk s (jd_al s ref) q)) → j jd 5 = nI (jd_ch (jd_pk s (jd_al s ref)) k) → Ok G (d + 4) mX2_weigh (fun v j q => q = r ∧ v = none ∧ post j) 53 [some (.ref jd), some (.ref st), none, some (.int (nI k))] [] j r := by
    generalize jd_al s ref = al at *
    have np6 := jd_np6 al1 al3
    intro m
    induction m with
    | zero =>
      intro k j hk hF gA g6 g4 gP g5
      have hk : k = jd_np al.length := by omega
      subst hk
      exact sX2_weigh_53 jd st _ ⟨hj.1, fun _ => o_rv (h j ⟨gA, g6, g4, gP, g5⟩ hF), fun w => absurd (by rw [g4]; exact nI_le (by omega) (by omega)) w⟩
    | succ m ih =>
      intro k j hk hF gA g6 g4 gP g5
      have hch := jd_ch_le (jd_pk s al) k
      obtain ⟨fa, fb⟩ := jd_fi_lt al1 al3 (k := k) (by omega)
      refine sX2_weigh_53 jd st _ ⟨hj.1, fun w => absurd w (by rw [g4]; exact nI_ge (by omega) (by omega)), fun _ => ⟨hcs, vp_in_nI (by omega) (by decide), ?_⟩⟩
      rw [nI_clamp (n := k) (by omega), (jd_tb (k := k)).1, (jd_tb (k := k)).2]
      refine c_penalty hj hst (st_same hS (fun a q ha => hF a q (by omega))) ⟨h8, hq⟩ gA al3 fa fb ?_
      rw [e3, Z3.len]
      refine ⟨Z3.Y, vp_in_nI (by omega) (by decide), fun i8 f8 => ?_⟩
      have c5 : i8 jd 5 = nI (jd_ch (jd_pk s al) k) := by rw [f8, o_up_a (by omega)]; exact g5
      have cP : ∀ q, q < k + 1 → i8 (jd + 3) q = nI (jd_pk s al q) := fun q hq' => by
        rw [f8]
        by_cases e : q = k
        · rw [e, o_up_s]
          rfl
        · rw [o_up_k e]
          exact gP q (by omega)
      have keep : ∀ a q, a ≠ jd + 3 → i8 a q = j a q := fun a q n2 => by rw [f8, o_up_a n2]
      rw [c5, nI_clamp (n := jd_ch (jd_pk s al) k) (by omega), cP (jd_ch (jd_pk s al) k) (by omega), cP k (by omega)]
      have zz : nI (jd_pk s al (jd_ch (jd_pk s al) k)) ≤ nI (jd_pk s al k) ↔ jd_pk s al (jd_ch (jd_pk s al) k) ≤ jd_pk s al k := nI_leI (by have := pkb (jd_ch (jd_pk s al) k); omega) (by have := pkb k; omega)
      have A8 : ja_S i8 jd s al := ⟨by rw [keep _ _ (by omega)]; exact gA.1, fun q c hc => by rw [keep _ _ (by omega), keep _ _ (by omega)]; exact gA.2 q c hc⟩
      have hsucc : jd_ch (jd_pk s al) (k + 1) = if jd_pk s al k < jd_pk s al (jd_ch (jd_pk s al) k) then k else jd_ch (jd_pk s al) k := rfl
      refine ⟨vp_in_nI (by omega) (by decide), fun hle x11 e11 => ?_, fun hle i12 f12 x13 e13 => ?_⟩
      · have := zz.mp hle
        rw [if_neg (by omega)] at hsucc
        rw [e11, nI_1]
        exact ih (k + 1) i8 (by omega) (fun a q ha => by rw [keep a q (by omega)]; exact hF a q ha) A8 (by rw [keep _ _ (by omega)]; exact g6) (by rw [keep _ _ (by omega)]; exact g4) cP (by rw [hsucc]; exact c5)
      · have hlt : jd_pk s al k < jd_pk s al (jd_ch (jd_pk s al) k) := Nat.lt_of_not_le (fun w => hle (zz.mpr w))
        rw [if_pos hlt] at hsucc
        rw [e13, nI_1]
        refine ih (k + 1) i12 (by omega) (fun a q ha => by rw [f12, o_up_a (by omega), keep a q (by omega)]; exact hF a q ha) ⟨by rw [f12, o_up_k (by decide)]; exact A8.1, fun q c hc => by rw [f12, o_up_a (by omega), o_up_a (by omega)]; exact A8.2 q c hc⟩ (by rw [f12, o_up_k (by decide), keep _ _ (by omega)]; exact g6) (by rw [f12, o_up_k (by decide), keep _ _ (by omega)]; exact g4) (fun q hq' => by rw [f12, o_up_a (by omega)]; exact cP q hq') (by rw [f12, o_up_s, hsucc])
  refine sp_of 1 (by decide +kernel) (Nat.le_of_ble_eq_true rfl) rfl (sX2_weigh_0 jd st _ ⟨hst.1, hj.1, fun i3 f3 i4 f4 => ?_⟩)
  have k4 : ∀ a q, ¬ (a = jd ∧ (q = 6 ∨ q = 2)) → i4 a q = i a q := fun a q n => by
    rw [f4, f3]
    by_cases e : a = jd
    · rw [o_up_k (fun z => n ⟨e, Or.inr z⟩), o_up_k (fun z => n ⟨e, Or.inl z⟩)]
    · rw [o_up_a e, o_up_a e]
  have S4 : st_S i4 st (jd_l s) := st_same hS (fun a q ha => k4 a q (by omega))
  have g6 : i4 jd 6 = nI s.length := by rw [f4, o_up_k (by decide), f3, o_up_s, jd_l_cnt hS]
  refine c_addAllele (al := []) hj hst hd S4 ⟨h8, hq⟩ ⟨by rw [f4, o_up_s]; rfl, fun q c hc => by cases hc⟩ (Nat.zero_le _) hr (fun i5 A5 F5 => ?_)
  have A5 : ja_S i5 jd s [ref] := A5
  have l1 := jd_add_len s [ref]
  simp at l1
  refine c_addMostSeen hj hst hd (st_F S4 hd F5) ⟨h8, hq⟩ A5 (by simp) (fun i6 A6 F6 => ?_)
  refine c_addMostSeen hj hst hd (st_F (st_F S4 hd F5) hd F6) ⟨h8, hq⟩ A6 (by omega) (fun i7 A7 F7 => ?_)
  have A7 : ja_S i7 jd s (jd_al s ref) := A7
  have k7 : ∀ a q, ¬ (a = jd ∧ q = 2) → a ≠ jd + 1 → a ≠ jd + 2 → i7 a q = i4 a q := fun a q n1 n2 n3 => by rw [F7 a q n1 n2 n3, F6 a q n1 n2 n3, F5 a q n1 n2 n3]
  intro i8 f8 i9 f9
  have k9 : ∀ a q, ¬ (a = jd ∧ (q = 4 ∨ q = 5)) → i9 a q = i7 a q := fun a q n => by
    rw [f9, f8]
    by_cases e : a = jd
    · rw [o_up_k (fun z => n ⟨e, Or.inr z⟩), o_up_k (fun z => n ⟨e, Or.inl z⟩)]
    · rw [o_up_a e, o_up_a e]
  refine loop (jd_np (jd_al s ref).length) 0 i9 (by omega) (fun a q ha => by rw [k9 a q (by omega), k7 a q (by omega) (by omega) (by omega), k4 a q (by omega)]) ⟨by rw [k9 _ _ (by omega)]; exact A7.1, fun q c hc => by rw [k9 _ _ (by omega), k9 _ _ (by omega)]; exact A7.2 q c hc⟩ (by rw [k9 _ _ (by omega), k7 _ _ (by omega) (by omega) (by omega)]; exact g6) ?_ (fun q hq' => absurd hq' (Nat.not_lt_zero q)) ?_
  · rw [f9, o_up_k (by decide), f8, o_up_s, A7.1]
    rcases jd_np_cases al1 al3 with ⟨e, f⟩ | ⟨e, f⟩ | ⟨e, f⟩ <;> rw [f, e] <;> decide
  · rw [f9, o_up_s]
    rfl
theorem c_firstChosen {G : o_G} {d : Nat} {i : o_I} {r : o_R} {post : Int32 → o_I → Prop} {jd n : Nat} (hcs : o_cst G) (hj : ly_jd G r jd) (hc : i jd 5 = nI n) (hn : n < 6) (h : post (nI (jd_fi n)) i) : SpI G (d + 1) mX2_firstChosen [.ref jd] post i r := by
  refine sp_of 0 (by decide +kernel) (Nat.le_of_ble_eq_true rfl) rfl (sX2_firstChosen_0 jd ?_)
  rw [hc, nI_clamp (n := n) (by omega)]
  exact ⟨hcs, hj.1, vp_in_nI (by omega) (by decide), o_ri h⟩
theorem c_secondChosen {G : o_G} {d : Nat} {i : o_I} {r : o_R} {post : Int32 → o_I → Prop} {jd n : Nat} (hcs : o_cst G) (hj : ly_jd G r jd) (hc : i jd 5 = nI n) (hn : n < 6) (h : post (nI (jd_se n)) i) : SpI G (d + 1) mX2_secondChosen [.ref jd] post i r := by
  refine sp_of 0 (by decide +kernel) (Nat.le_of_ble_eq_true rfl) rfl (sX2_secondChosen_0 jd ?_)
  rw [hc, nI_clamp (n := n) (by omega)]
  exact ⟨hcs, hj.1, vp_in_nI (by omega) (by decide), o_ri h⟩

/-! PARSER: parseReads -/
/-- where the reads begin -/
def rs_l (lk : Nat → Int32) (n : Nat) : Nat → Nat → List Nat
  | 0, _ => []
  | f + 1, a => if n ≤ a then [] else a :: rs_l lk n f (rr_z lk a)
/-- a read's cells hold what stands from s on -/
def rq_S (j : o_I) (rd : Nat) (lk : Nat → Int32) (s : Nat) : Prop := j rd 2 = nI (rr_k lk s) ∧ (∀ q, q < rr_k lk s → j (rd + 1) q = px_code (lk (rr_b lk s + q))) ∧ ∀ q, q < rr_k lk s → j (rd + 2) q = lk (rr_c lk s + q) - 33
def pq_F (p sm : Nat) (i j : o_I) : Prop := ∀ b k, ¬ (b = p ∧ (k = 1 ∨ k = 2)) → ¬ (b = sm ∧ k = 5) → (b < sm + 4 ∨ sm + 36 ≤ b) → j b k = i b k
theorem c_parseReads {G : o_G} {d : Nat} {i : o_I} {r : o_R} {post : Int32 → o_I → Prop} {p t cap n sm : Nat} {lk : Nat → Int32} (hc : o_cst G) (hp : ly_pars G r p t cap) (hsm : ly_sm G r sm) (d1 : t + 1 < p) (d2 : p < sm) (ht : tp_S i t n lk) (hn : n ≤ cap) (hcap : cap < 2 ^ 19)
    (hE : ∀ e j, rs_e lk n 8 0 = some e → pq_F p sm i j → post (nI e) j)
    (hK : ∀ j, rs_e lk n 8 0 = none → j sm 5 = nI (rs_l lk n 8 0).length → (∀ q s, (rs_l lk n 8 0)[q]? = some s → rq_S j (sm + 4 + 4 * q) lk s) → pq_F p sm i j → post (-1) j) : SpI G (d + 8) mX3_parseReads [.ref p, .ref sm] post i r := by
  have hO := hp.1
  have er := hp.2.1
  have hT := hp.2.2.1
  have e4 := hsm.2.2.2.2.2.1
  have Z4 := hsm.2.2.2.2.2.2.1
  have hrd := hsm.2.2.2.2.2.2.2
  have tpF : ∀ {j : o_I}, pq_F p sm i j → tp_S j t n lk := fun {j} F => ⟨by rw [F _ _ (by omega) (by omega) (by omega)]; exact ht.1, fun z hz => by rw [F _ _ (by omega) (by omega) (by omega)]; exact ht.2.1 z hz, ht.2.2⟩
  have end_ : ∀ j a w, a ≤ n → tp_S j t n lk → ps_S j p a w → (w = true ∨ a < n → post (nI a) j) → (w = false → n ≤ a → post (-1) j) → Ok G (d + 8) mX3_parseReads (fun v j q => q = r ∧ ∃ x, v = some (.int x) ∧ post x j) 65 [some (.ref p), none] [] j r := by
    intro j a w ha T S h1 h0
    have hw := ps_w S
    refine sX3_parseReads_65 p ?_
    rw [er]
    refine ⟨hO, ⟨fun _ => trivial, fun _ => ⟨hT, trivial⟩⟩, fun x5 e5 => ?_⟩
    rw [S.1, T.1] at e5
    have zl : nI n ≤ nI a ↔ n ≤ a := nI_leI (by omega) (by omega)
    cases hv : w with
    | true =>
      rw [if_neg (fun q => by have := hw.mp q; rw [hv] at this; cases this)] at e5
      rw [e5]
      exact o_ri (h1 (Or.inl hv))
    | false =>
      rw [if_pos (hw.mpr hv)] at e5
      by_cases u : n ≤ a
      · rw [if_pos (zl.mpr u)] at e5
        rw [e5]
        exact o_ri (h0 hv u)
      · rw [if_neg (fun q => u (zl.mp q))] at e5
        rw [e5]
        exact o_ri (h1 (Or.inr (by omega)))
  have loop : ∀ f a dl j, dl.length + f = 8 → a ≤ n → rs_e lk n f a = rs_e lk n 8 0 → dl ++ rs_l lk n f a = rs_l lk n 8 0 → ps_S j p a false → j sm 5 = nI dl.length → (∀ q s, dl[q]? = some s → rq_S j (sm + 4 + 4 * q) lk s) → pq_F p sm i j → Ok G (d + 8) mX3_parseReads (fun v j q => q = r ∧ ∃ x, v = some (.int x) ∧ post x j) 9 [some (.ref p), some (.ref sm)] [] j r := by
    intro f
    induction f with
    | zero =>
      intro a dl j hf ha he hl S h5 hq F
      have T := tpF F
      unfold rs_e at he
      have hl : dl = rs_l lk n 8 0 := by rw [← hl]; exact (List.append_nil dl).symm
      have fin : Ok G (d + 8) mX3_parseReads (fun v j q => q = r ∧ ∃ x, v = some (.int x) ∧ post x j) 65 [some (.ref p), none] [] j r := by
        refine end_ j a false ha T S (fun u => hE a j ?_ F) (fun _ u => hK j ?_ (by rw [← hl]; exact h5) (by rw [← hl]; exact hq) F)
        · rcases u with u | u
          · cases u
          · rw [if_neg (by omega)] at he
            exact he.symm
        · rw [if_pos u] at he
          exact he.symm
      refine sX3_parseReads_9 p sm ⟨hO, fun _ => fin, fun _ => ?_⟩
      rw [er]
      refine ⟨hT, fun _ => fin, fun _ => ⟨hsm.1, fun _ => fin, fun q => absurd ?_ q⟩⟩
      rw [h5, show dl.length = 8 by omega]
      decide
    | succ f ih =>
      intro a dl j hf ha he hl S h5 hq F
      have T := tpF F
      have hw0 := (ps_w S).mpr rfl
      have ee : rs_e lk n (f + 1) a = if n ≤ a then none else match rr_e lk a with
        | some e => some e
        | none => rs_e lk n f (rr_z lk a) := rfl
      have el : rs_l lk n (f + 1) a = if n ≤ a then [] else a :: rs_l lk n f (rr_z lk a) := rfl
      rw [ee] at he
      rw [el] at hl
      refine sX3_parseReads_9 p sm ⟨hO, fun q => absurd hw0 q, fun _ => ?_⟩
      rw [er, S.1, T.1, nI_leI (by omega) (by omega)]
      refine ⟨hT, fun hle => ?_, fun hle => ⟨hsm.1, fun q => absurd q (by rw [h5]; exact nI_ge (b := 8) (by omega) (by decide)), fun _ => ?_⟩⟩
      · rw [if_pos hle] at he hl
        have hl : dl = rs_l lk n 8 0 := by rw [← hl]; exact (List.append_nil dl).symm
        exact end_ j a false ha T S (fun u => by rcases u with u | u; cases u; omega) (fun _ _ => hK j he.symm (by rw [← hl]; exact h5) (by rw [← hl]; exact hq) F)
      · rw [if_neg hle] at he hl
        rw [e4, Z4.len, h5, nI_clamp (n := dl.length) (by omega), (hrd dl.length (by omega)).1]
        refine ⟨Z4.Y, vp_in_nI (by omega) (by decide), ?_⟩
        refine c_read1 hc hp (hrd dl.length (by omega)).2 d1 (by omega) T hn hcap S ha (fun e j2 hre S2 F2 i10 f10 => ?_) (fun j2 hre S2 hcnt hL hQ F2 i10 f10 => ?_)
        · rw [hre] at he
          have F10 : pq_F p sm i i10 := fun b k n1 n2 n3 => by
            rw [f10]
            by_cases eb : b = sm
            · rw [o_up_k (fun u => n2 ⟨eb, u⟩), F2 b k n1 (by omega) (by omega) (by omega)]
              exact F b k n1 n2 n3
            · rw [o_up_a eb, F2 b k n1 (by omega) (by omega) (by omega)]
              exact F b k n1 n2 n3
          have S10 : ps_S i10 p e true := ⟨by rw [f10, o_up_a (by omega)]; exact S2.1, by rw [f10, o_up_a (by omega)]; exact S2.2⟩
          have hw10 : ¬ i10 p 2 = 0 := fun q => by have := (ps_w S10).mp q; cases this
          have fin : Ok G (d + 8) mX3_parseReads (fun v j q => q = r ∧ ∃ x, v = some (.int x) ∧ post x j) 65 [some (.ref p), none] [] i10 r := by
            refine sX3_parseReads_65 p ?_
            rw [er]
            refine ⟨hO, ⟨fun _ => trivial, fun _ => ⟨hT, trivial⟩⟩, fun x5 e5 => ?_⟩
            rw [if_neg hw10, S10.1] at e5
            rw [e5]
            exact o_ri (hE e i10 he.symm F10)
          exact sX3_parseReads_9 p sm ⟨hO, fun _ => fin, fun q => absurd q hw10⟩
        · rw [hre] at he
          have k10 : ∀ b k, ¬ (b = sm ∧ k = 5) → i10 b k = j2 b k := fun b k nb => by
            rw [f10]
            by_cases eb : b = sm
            · rw [o_up_k (fun u => nb ⟨eb, u⟩)]
            · rw [o_up_a eb]
          refine ih (rr_z lk a) (dl ++ [a]) i10 (by rw [List.length_append]; simp only [List.length_singleton]; omega) (rr_z_le ht.2.2 hre) he (by rw [List.append_assoc]; exact hl) ⟨by rw [k10 _ _ (by omega)]; exact S2.1, by rw [k10 _ _ (by omega)]; exact S2.2⟩ ?_ (fun q s hs => ?_) (fun b k n1 n2 n3 => by rw [k10 b k n2, F2 b k n1 (by omega) (by omega) (by omega)]; exact F b k n1 n2 n3)
          · rw [f10, o_up_s, F2 _ _ (by omega) (by omega) (by omega) (by omega), h5, nI_1, List.length_append]
            rfl
          · by_cases eq : q = dl.length
            · subst eq
              rw [List.getElem?_append_right (Nat.le_refl _), Nat.sub_self] at hs
              have : a = s := by simpa using hs
              subst this
              exact ⟨by rw [k10 _ _ (by omega)]; exact hcnt, fun z hz => by rw [k10 _ _ (by omega)]; exact hL z hz, fun z hz => by rw [k10 _ _ (by omega)]; exact hQ z hz⟩
            · have hql : q < dl.length := by
                have := (List.getElem?_eq_some_iff.mp hs).1
                rw [List.length_append] at this
                simp only [List.length_singleton] at this
                omega
              rw [List.getElem?_append_left hql] at hs
              obtain ⟨q1, q2, q3⟩ := hq q s hs
              exact ⟨by rw [k10 _ _ (by omega), F2 _ _ (by omega) (by omega) (by omega) (by omega)]; exact q1, fun z hz => by rw [k10 _ _ (by omega), F2 _ _ (by omega) (by omega) (by omega) (by omega)]; exact q2 z hz, fun z hz => by rw [k10 _ _ (by omega), F2 _ _ (by omega) (by omega) (by omega) (by omega)]; exact q3 z hz⟩
  refine sp_of 0 (by decide +kernel) (Nat.le_of_ble_eq_true rfl) rfl (sX3_parseReads_0 p sm ⟨hO, c_begin hO ⟨hsm.1, fun i4 f4 => ?_⟩⟩)
  have k4 : ∀ b k, ¬ (b = p ∧ (k = 1 ∨ k = 2)) → ¬ (b = sm ∧ k = 5) → i4 b k = i b k := fun b k n1 n2 => by
    rw [f4]
    by_cases eb : b = sm
    · rw [o_up_k (fun u => n2 ⟨eb, u⟩), o_up_a (by omega), o_up_a (by omega)]
    · rw [o_up_a eb]
      by_cases ep : b = p
      · rw [o_up_k (fun u => n1 ⟨ep, Or.inr u⟩), o_up_k (fun u => n1 ⟨ep, Or.inl u⟩)]
      · rw [o_up_a ep, o_up_a ep]
  refine loop 8 0 [] i4 rfl (Nat.zero_le _) rfl rfl ⟨?_, ?_⟩ ?_ (fun q s hs => by cases hs) (fun b k n1 n2 _ => k4 b k n1 n2)
  · rw [f4, o_up_a (by omega), o_up_k (by decide), o_up_s]
    rfl
  · rw [f4, o_up_a (by omega), o_up_s]
    rfl
  · rw [f4, o_up_s]
    rfl

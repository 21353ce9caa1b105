/-! PARSER: parseReference, whole -/
theorem c_parseReference {G : o_G} {d : Nat} {i : o_I} {r : o_R} {post : Int32 → o_I → Prop} {p t cap n sm : Nat} {lk : Nat → Int32} (hc : o_cst G) (hp : ly_pars G r p t cap) (hsm : ly_sm G r sm) (d1 : t + 1 < p) (d2 : p < sm) (ht : tp_S i t n lk) (hn : n ≤ cap) (hcap : cap < 2 ^ 19)
    (hE : ∀ e j, pr_ref lk n = some e → pr_F p sm i j → post (nI e) j)
    (hK : ∀ j, pr_ref lk n = none → j sm 1 = nI (pr_nm lk 1) → (∀ q, q < pr_nm lk 1 → j (sm + 1) q = lk (1 + q)) → sb_S j sm (pr_b lk n 49 (1 + pr_nm lk 1 + 1) []) → pr_F p sm i j → post (-1) j) : SpI G (d + 8) mX3_parseReference [.ref p, .ref sm] post i r := by
  have hO := hp.1
  have e0 := hsm.2.1
  have Z0 := hsm.2.2.1
  have tpF : ∀ {j : o_I}, pr_F p sm i j → tp_S j t n lk := fun {j} F => ⟨by rw [F _ _ (by omega) (by omega) (by omega) (by omega)]; exact ht.1, fun z hz => by rw [F _ _ (by omega) (by omega) (by omega) (by omega)]; exact ht.2.1 z hz, ht.2.2⟩
  have fP : ∀ {i1 j1 : o_I}, pr_F p sm i i1 → pf_F p i1 j1 → pr_F p sm i j1 := fun {i1 j1} u v b z n1 n2 n3 n4 => by rw [v b z n1]; exact u b z n1 n2 n3 n4
  -- from the line break behind the name on
  have tail : ∀ j a w, ps_S j p a w → a ≤ n → pr_F p sm i j → (∀ e j2, (w = true ∨ ¬ lk a = 10) → e = a → pr_F p sm i j2 → post (nI e) j2) → (∀ e j2, w = false → lk a = 10 → pr_e lk n 49 (a + 1) 0 = some e → pr_F p sm i j2 → post (nI e) j2) → (∀ j2, w = false → lk a = 10 → pr_e lk n 49 (a + 1) 0 = none → sb_S j2 sm (pr_b lk n 49 (a + 1) []) → (∀ b k, ¬ (b = p ∧ (k = 1 ∨ k = 2)) → ¬ (b = sm ∧ k = 3) → b ≠ sm + 2 → j2 b k = j b k) → post (-1) j2) →
      SpV G (d + 7) mX3_expect [.ref p, .int 10] (fun i4 => ∀ i5 : o_I, i5 = o_up i4 sm 3 0 → SpV G (d + 7) mX3_takeLine [.ref p, .ref sm] (fun i6 => Ok G (d + 8) mX3_parseReference (fun v j q => q = r ∧ ∃ x, v = some (.int x) ∧ post x j) 71 [some (.ref p), some (.ref sm), some (.int 1)] [] i6 r) i5 r) j r := by
    intro j a w S ha F h1 h2 h3
    refine c_ex hp (tpF F) hn (by omega) S (by omega) (by decide) (fun j2 S2 F2 j3 e3 => ?_)
    have k3 : ∀ b k, ¬ (b = p ∧ (k = 1 ∨ k = 2)) → ¬ (b = sm ∧ k = 3) → j3 b k = j b k := fun b k n1 n2 => by
      rw [e3]
      by_cases eb : b = sm
      · rw [o_up_k (fun z => n2 ⟨eb, z⟩), F2 b k n1]
      · rw [o_up_a eb, F2 b k n1]
    have F3 : pr_F p sm i j3 := fun b k n1 n2 n3 n4 => by rw [k3 b k n1 (by omega)]; exact F b k n1 n2 n3 n4
    have S3 : ps_S j3 p (pp_ea lk 10 a w) (pp_ew lk 10 a w) := ⟨by rw [e3, o_up_a (by omega)]; exact S2.1, by rw [e3, o_up_a (by omega)]; exact S2.2⟩
    have B3 : sb_S j3 sm [] := ⟨by rw [e3, o_up_s]; rfl, Nat.zero_le _, fun k c hk => by cases hk⟩
    have a3 : pp_ea lk 10 a w ≤ n := ea_le ha ht.2.2 (by decide)
    refine c_takeLine hc hp hsm d1 d2 (tpF F3) hn hcap S3 a3 B3 (fun j4 S4 B4 F4 => ?_)
    have F4' : pr_F p sm i j4 := fun b k n1 n2 n3 n4 => by rw [F4 b k n1 (by omega) n4]; exact F3 b k n1 n2 n3 n4
    have T3 := tpF F3
    have lift : ∀ {jj : o_I}, pb_F p sm j3 jj → pr_F p sm i jj := fun {jj} u b k n1 n2 n3 n4 => by rw [u b k n1 (by omega) n4]; exact F3 b k n1 n2 n3 n4
    unfold ln_b at B4
    by_cases hw : w = false ∧ lk a = 10
    · have ea : pp_ea lk 10 a w = a + 1 := by unfold pp_ea; rw [if_pos hw]
      have ew : pp_ew lk 10 a w = false := by unfold pp_ew; rw [if_pos hw]
      rw [ea, ew] at S4 B4
      rw [ea] at a3
      have l0 : ([] : List Nat).length = 0 := rfl
      rw [l0] at S4 B4
      rw [ln_k_f, ln_w_f] at S4
      rw [ln_k_f, ln_w_f] at B4
      have hle2 : a + 1 + pr_k lk (a + 1) 0 ≤ n := by
        have := tk_le (lk := lk) (kd := 1) (w := false) (m1 := 48 - 0) a3 ht.2.2
        have e := ln_k_f lk (a + 1) 0
        unfold ln_k at e
        rw [e] at this
        exact this
      have ee : pr_e lk n 49 (a + 1) 0 = if 1 ≤ pr_k lk (a + 1) 0 ∧ lk (a + 1 + pr_k lk (a + 1) 0) = 10 then (if a + 1 + pr_k lk (a + 1) 0 + 1 < n then pr_e lk n 48 (a + 1 + pr_k lk (a + 1) 0 + 1) (0 + pr_k lk (a + 1) 0) else none) else some (a + 1 + pr_k lk (a + 1) 0) := rfl
      have eb : pr_b lk n 49 (a + 1) [] = if a + 1 + pr_k lk (a + 1) 0 + 1 < n then pr_b lk n 48 (a + 1 + pr_k lk (a + 1) 0 + 1) ([] ++ pp_cd lk (a + 1) (pr_k lk (a + 1) 0)) else [] ++ pp_cd lk (a + 1) (pr_k lk (a + 1) 0) := rfl
      generalize pr_k lk (a + 1) 0 = k at *
      rw [Nat.zero_add] at ee
      by_cases hk1 : 1 ≤ k
      · have dk : decide (k < 1) = false := by simp; omega
        rw [dk] at S4 B4
        rw [if_neg (by decide)] at B4
        have bll : ([] ++ pp_cd lk (a + 1) k).length = k := by rw [List.nil_append, pp_cd_len]
        by_cases hl : lk (a + 1 + k) = 10
        · have pa : pp_ea lk 10 (a + 1 + k) false = a + 1 + k + 1 := by unfold pp_ea; rw [if_pos ⟨rfl, hl⟩]
          have pw : pp_ew lk 10 (a + 1 + k) false = false := by unfold pp_ew; rw [if_pos ⟨rfl, hl⟩]
          rw [pa, pw] at S4
          rw [if_pos ⟨hk1, hl⟩] at ee
          have hlt : a + 1 + k + 1 ≤ n := by
            have : ¬ n ≤ a + 1 + k := fun q => by rw [ht.2.2 _ q] at hl; exact absurd hl (by decide)
            omega
          refine c_lines hc hp hsm d1 d2 T3 hn hcap 48 1 (a + 1 + k + 1) false _ j4 (by decide) (by rw [bll]; omega) S4 B4 hlt F4 (fun e j5 hh F5 => h2 e j5 hw.1 hw.2 ?_ (lift F5)) (fun j5 BL _ hh B5 F5 => h3 j5 hw.1 hw.2 ?_ ?_ (fun b z n1 n2 n3 => by rw [F5 b z n1 n2 n3]; exact k3 b z n1 n2))
          · rcases hh with ⟨u, -⟩ | ⟨-, u1, u2⟩
            · cases u
            · rw [bll] at u2
              rw [ee, if_pos u1]
              exact u2
          · rcases hh with ⟨u, -⟩ | ⟨u1, u2, -⟩
            · rw [ee, if_neg (by omega)]
            · rw [bll] at u2
              rw [ee, if_pos u1]
              exact u2
          · rcases hh with ⟨u, u2⟩ | ⟨u1, -, u2⟩
            · rw [eb, if_neg (by omega), ← u2]
              exact B5
            · rw [eb, if_pos u1, ← u2]
              exact B5
        · have pa : pp_ea lk 10 (a + 1 + k) false = a + 1 + k := by unfold pp_ea; rw [if_neg (fun q => hl q.2)]
          have pw : pp_ew lk 10 (a + 1 + k) false = true := by unfold pp_ew; rw [if_neg (fun q => hl q.2)]
          rw [pa, pw] at S4
          rw [if_neg (fun q => hl q.2)] at ee
          refine c_lines hc hp hsm d1 d2 T3 hn hcap 48 1 (a + 1 + k) true _ j4 (by decide) (by rw [bll]; omega) S4 B4 hle2 F4 (fun e j5 hh F5 => h2 e j5 hw.1 hw.2 ?_ (lift F5)) (fun j5 BL u => by cases u)
          rcases hh with ⟨-, u⟩ | ⟨u, -⟩
          · rw [ee, u]
          · cases u
      · have dk : decide (k < 1) = true := by simp; omega
        rw [dk] at S4 B4
        rw [(pp_t lk 10 (a + 1 + k)).1, (pp_t lk 10 (a + 1 + k)).2] at S4
        rw [if_neg (fun q => hk1 q.1)] at ee
        have hw4 : ¬ j4 p 2 = 0 := fun q => by have := (ps_w S4).mp q; cases this
        have fin : Ok G (d + 8) mX3_parseReference (fun v j q => q = r ∧ ∃ x, v = some (.int x) ∧ post x j) 109 [some (.ref p), none, none] [] j4 r := by
          refine sX3_parseReference_109 p ⟨hO, fun x3 e3 => ?_⟩
          rw [if_neg hw4, S4.1] at e3
          rw [e3]
          exact o_ri (h2 _ j4 hw.1 hw.2 ee F4')
        exact sX3_parseReference_71 p sm _ ⟨fun _ => fin, fun _ => ⟨hO, fun _ => fin, fun q => absurd q hw4⟩⟩
    · have ea : pp_ea lk 10 a w = a := by unfold pp_ea; rw [if_neg hw]
      have ew : pp_ew lk 10 a w = true := by unfold pp_ew; rw [if_neg hw]
      rw [ea, ew, ln_k_t, ln_w_t, Nat.add_zero, (pp_t lk 10 a).1, (pp_t lk 10 a).2] at S4
      have hw4 : ¬ j4 p 2 = 0 := fun q => by have := (ps_w S4).mp q; cases this
      have hbad : w = true ∨ ¬ lk a = 10 := by
        cases hv : w with
        | true => exact Or.inl rfl
        | false => exact Or.inr (fun q => hw ⟨hv, q⟩)
      have fin : Ok G (d + 8) mX3_parseReference (fun v j q => q = r ∧ ∃ x, v = some (.int x) ∧ post x j) 109 [some (.ref p), none, none] [] j4 r := by
        refine sX3_parseReference_109 p ⟨hO, fun x3 e3 => ?_⟩
        rw [if_neg hw4, S4.1] at e3
        rw [e3]
        exact o_ri (h1 a j4 hbad rfl F4')
      exact sX3_parseReference_71 p sm _ ⟨fun _ => fin, fun _ => ⟨hO, fun _ => fin, fun q => absurd q hw4⟩⟩
  -- the name
  have nameL : ∀ (a2 nl : Nat) (w2 : Bool), a2 ≤ n → nl ≤ a2 → nl ≤ 8 → (∀ j, ps_S j p a2 w2 → j sm 1 = nI nl → (∀ z, z < nl → j (sm + 1) z = lk (a2 - nl + z)) → pr_F p sm i j → SpV G (d + 7) mX3_expect [.ref p, .int 10] (fun i4 => ∀ i5 : o_I, i5 = o_up i4 sm 3 0 → SpV G (d + 7) mX3_takeLine [.ref p, .ref sm] (fun i6 => Ok G (d + 8) mX3_parseReference (fun v j q => q = r ∧ ∃ x, v = some (.int x) ∧ post x j) 71 [some (.ref p), some (.ref sm), some (.int 1)] [] i6 r) i5 r) j r) →
      ∀ m q j, q + m = nl → ps_S j p a2 w2 → j sm 1 = nI nl → (∀ z, z < q → j (sm + 1) z = lk (a2 - nl + z)) → pr_F p sm i j → Ok G (d + 8) mX3_parseReference (fun v j q => q = r ∧ ∃ x, v = some (.int x) ∧ post x j) 24 [some (.ref p), some (.ref sm), some (.int (nI q))] [] j r := by
    intro a2 nl w2 ha2 hnl hnl8 hcont m
    induction m with
    | zero =>
      intro q j hq S h1 hz F
      have hq : q = nl := by omega
      subst hq
      exact sX3_parseReference_24 p sm _ ⟨hsm.1, fun _ => ⟨hO, hcont j S h1 hz F⟩, fun u => absurd (by rw [h1]; exact nI_le (by omega) (by omega)) u⟩
    | succ m ih =>
      intro q j hq S h1 hz F
      have T := tpF F
      obtain ⟨q0, hq0, eq0⟩ := tx_al_n (ht.2.1 (a2 - nl + q) (by omega)).2
      refine sX3_parseReference_24 p sm _ ⟨hsm.1, fun u => absurd u (by rw [h1]; exact nI_ge (by omega) (by omega)), fun _ => ⟨hO, ?_⟩⟩
      rw [h1]
      refine c_taken hp T hn (by omega) S ha2 hnl (by omega) ?_
      rw [e0, Z0.len, nI_clamp (n := q) (by omega), eq0, tw_ch hq0, ← eq0]
      refine ⟨Z0.Y, vp_in_nI (by omega) (by decide), fun i11 f11 x12 e12 => ?_⟩
      rw [e12, nI_1]
      refine ih (q + 1) i11 (by omega) ⟨by rw [f11, o_up_a (by omega)]; exact S.1, by rw [f11, o_up_a (by omega)]; exact S.2⟩ (by rw [f11, o_up_a (by omega)]; exact h1) (fun z hz' => ?_) (fun b k n1 n2 n3 n4 => by rw [f11, o_up_a n3]; exact F b k n1 n2 n3 n4)
      rw [f11]
      by_cases e : z = q
      · rw [e, o_up_s]
      · rw [o_up_k e]
        exact hz z (by omega)
  refine sp_of 1 (by decide +kernel) (Nat.le_of_ble_eq_true rfl) rfl (sX3_parseReference_0 p sm ⟨hO, c_begin hO ?_⟩)
  have Fb : pr_F p sm i (o_up (o_up i p 1 0) p 2 0) := fun b k n1 n2 n3 n4 => by
    by_cases eb : b = p
    · rw [o_up_k (fun z => n1 ⟨eb, Or.inr z⟩), o_up_k (fun z => n1 ⟨eb, Or.inl z⟩)]
    · rw [o_up_a eb, o_up_a eb]
  have Sb : ps_S (o_up (o_up i p 1 0) p 2 0) p 0 false := ⟨by rw [o_up_k (by decide), o_up_s]; rfl, by rw [o_up_s]; rfl⟩
  refine c_ex (c := 62) hp (tpF Fb) hn (by omega) Sb (by decide) (by decide) (fun j1 S1 F1 => ?_)
  have F1' := fP Fb F1
  have a1 : pp_ea lk 62 0 false ≤ n := ea_le (Nat.zero_le _) ht.2.2 (by decide)
  refine c_take (m0 := 1) (m1 := 8) (kd := 0) hc hp (by omega) (by omega) (tpF F1') hn (by omega) S1 (by omega) (by decide) (by decide) (by decide) (fun j2 S2 F2 => ⟨hsm.1, fun j3 e3 => ?_⟩)
  have F2' := fP F1' F2
  have F3 : pr_F p sm i j3 := fun b k n1 n2 n3 n4 => by
    rw [e3]
    by_cases eb : b = sm
    · rw [o_up_k (fun z => n2 ⟨eb, Or.inl z⟩)]
      exact F2' b k n1 n2 n3 n4
    · rw [o_up_a eb]
      exact F2' b k n1 n2 n3 n4
  have kl8 : tk_k lk 0 (pp_ew lk 62 0 false) (pp_ea lk 62 0 false) 8 ≤ 8 := by
    unfold tk_k
    split
    · exact Nat.zero_le _
    · exact px_run_le _ _ _
  have a2 : pp_ea lk 62 0 false + tk_k lk 0 (pp_ew lk 62 0 false) (pp_ea lk 62 0 false) 8 ≤ n := tk_le a1 ht.2.2
  have S3 : ps_S j3 p (pp_ea lk 62 0 false + tk_k lk 0 (pp_ew lk 62 0 false) (pp_ea lk 62 0 false) 8) (tk_w lk 0 (pp_ew lk 62 0 false) (pp_ea lk 62 0 false) 1 8) := ⟨by rw [e3, o_up_a (by omega)]; exact S2.1, by rw [e3, o_up_a (by omega)]; exact S2.2⟩
  have n3 : j3 sm 1 = nI (if tk_w lk 0 (pp_ew lk 62 0 false) (pp_ea lk 62 0 false) 1 8 = true then 0 else tk_k lk 0 (pp_ew lk 62 0 false) (pp_ea lk 62 0 false) 8) := by rw [e3, o_up_s]
  refine nameL _ _ _ a2 (by split <;> omega) (by split <;> omega) (fun j S h1 hz F => tail j _ _ S a2 F (fun e j4 hb he F4 => hE e j4 ?_ F4) (fun e j4 hw hl he F4 => hE e j4 ?_ F4) (fun j4 hw hl he B4 F4 => ?_)) _ 0 j3 (Nat.zero_add _) S3 n3 (fun z hz => absurd hz (Nat.not_lt_zero z)) F3
  all_goals
    by_cases h62 : lk 0 = 62
    · have ea : pp_ea lk 62 0 false = 1 := by unfold pp_ea; rw [if_pos ⟨rfl, h62⟩]
      have ew : pp_ew lk 62 0 false = false := by unfold pp_ew; rw [if_pos ⟨rfl, h62⟩]
      have ek : tk_k lk 0 false 1 8 = pr_nm lk 1 := by unfold tk_k pr_nm; rw [if_neg (by decide)]; rfl
      have ewk : tk_w lk 0 false 1 1 8 = decide (pr_nm lk 1 < 1) := by unfold tk_w; rw [ek]; rfl
      have er : pr_ref lk n = if 1 ≤ pr_nm lk 1 ∧ lk (1 + pr_nm lk 1) = 10 then pr_e lk n 49 (1 + pr_nm lk 1 + 1) 0 else some (1 + pr_nm lk 1) := by unfold pr_ref; rw [if_pos h62]
      simp only [ea, ew, ek, ewk] at *
      first
        | (rw [er, he, if_neg (fun q => by
            rcases hb with u | u
            · have := of_decide_eq_true u
              omega
            · exact u q.2)])
        | (have := of_decide_eq_false hw
           rw [er, if_pos ⟨by omega, hl⟩]
           exact he)
        | (have := of_decide_eq_false hw
           rw [if_neg (by rw [hw]; decide)] at h1 hz
           refine hK j4 (by rw [er, if_pos ⟨by omega, hl⟩]; exact he) (by rw [F4 _ _ (by omega) (by omega) (by omega)]; exact h1) (fun q hq => by
             rw [F4 _ _ (by omega) (by omega) (by omega), hz q hq]
             congr 1
             omega) B4 (fun b k n1 n2 n3 n4 => by rw [F4 b k n1 (by omega) n4]; exact F b k n1 n2 n3 n4))
    · have ea : pp_ea lk 62 0 false = 0 := by unfold pp_ea; rw [if_neg (fun q => h62 q.2)]
      have ew : pp_ew lk 62 0 false = true := by unfold pp_ew; rw [if_neg (fun q => h62 q.2)]
      have ek : tk_k lk 0 true 0 8 = 0 := by unfold tk_k; rw [if_pos rfl]
      have ewk : tk_w lk 0 true 0 1 8 = true := rfl
      have er : pr_ref lk n = some 0 := by unfold pr_ref; rw [if_neg h62]
      simp only [ea, ew, ek, ewk] at *
      first
        | (rw [er, he])
        | (cases hw)

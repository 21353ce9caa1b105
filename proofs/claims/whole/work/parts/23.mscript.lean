/-! THE REFERENCE: script -/
def mk_F (y q : Nat) (i j : o_I) : Prop := ∀ a z, a ≠ y + 15 → a ≠ y + 16 → a ≠ y + 17 → ¬ (a = y + 13 ∧ z = q) → ¬ (a = y + 14 ∧ 40 * q ≤ z ∧ z < 40 * q + 40) → j a z = i a z
/-- the script of read q from its front -/
def ms_T (j : o_I) (y q : Nat) (T : List Nat) : Prop := j (y + 13) q = nI T.length ∧ ∀ k, k < T.length → j (y + 14) (40 * q + k) = nI (T.getD (T.length - 1 - k) 0)
theorem m_script1 {G : o_G} {d : Nat} {i : o_I} {r : o_R} {P : o_P} {y q L : Nat} {f : Nat → Int32} (hm : ly_m G r y) (hq : q < 8) (hL : L ≤ 40) (h : ∀ j, (∀ k, k < L → j (y + 14) (40 * q + k) = f (L - 1 - k)) → (∀ a z, ¬ (a = y + 14 ∧ 40 * q ≤ z ∧ z < 40 * q + 40) → j a z = i a z) → P none j r) :
    ∀ m a j, a + m = L / 2 → sq_I L a id f (fun k => if k < 40 then j (y + 14) (40 * q + k) else f k) → (∀ a z, ¬ (a = y + 14 ∧ 40 * q ≤ z ∧ z < 40 * q + 40) → j a z = i a z) → Ok G (d + 1) mX10_script P 256 [some (.ref y), some (.int (nI q)), none, none, some (.int (nI L)), some (.int (nI a)), none, none] [] j r := by
  obtain ⟨eS, ZS⟩ := hm.2 16 14 1 320 rfl (by decide)
  have h2 : nI L / 2 = nI (L / 2) := pk_div (a := L) (d := 2) (by omega) (by decide) (by decide)
  intro m
  induction m with
  | zero =>
    intro a j ha hI hj
    refine sX10_script_256 y _ _ _ ⟨fun _ => h j (fun k hk => ?_) hj, fun hn' => absurd ?_ hn'⟩
    · have := hI k
      simp only [show k < 40 by omega, if_true, id] at this
      rw [this]
      split
      · rfl
      · congr 1
        omega
    · rw [h2]
      exact nI_le (by omega) (by omega)
  | succ m ih =>
    intro a j ha hI hj
    have e40 : (40 : Int32) * nI q = nI (40 * q) := pk_mul 40 q
    refine sX10_script_256 y _ _ _ ⟨fun hle => absurd hle ?_, fun _ => ?_⟩
    · rw [h2]
      exact nI_ge (by omega) (by omega)
    · rw [e40, eS, ZS.len, nI_add, nI_add, nI_m1 (n := 40 * q + L) (by omega), pk_sub (by omega), nI_clamp (n := 40 * q + a) (by omega), nI_clamp (n := 40 * q + L - 1 - a) (by omega)]
      refine ⟨hm.1, ZS.Y, vp_in_nI (by omega) (by decide), fun x5 e5 => ⟨vp_in_nI (by omega) (by decide), fun i7 e7 i8 e8 x9 e9 => ?_⟩⟩
      rw [e9, nI_1]
      have ix : 40 * q + L - 1 - a = 40 * q + (L - 1 - a) := by omega
      rw [ix] at e7 e8
      refine ih (a + 1) i8 (by omega) (sq_step (op := id) (f := f) (g := fun k => if k < 40 then j (y + 14) (40 * q + k) else f k) (by omega) (by omega) hI ?_ ?_ (fun k k1 k2 => ?_)) (fun b z hb => ?_)
      · simp only [show a < 40 by omega, show L - 1 - a < 40 by omega, if_true, id]
        rw [e8, o_up_k (by omega), e7, o_up_s]
      · simp only [show a < 40 by omega, show L - 1 - a < 40 by omega, if_true, id]
        rw [e8, o_up_s, e5]
      · show (if k < 40 then i8 (y + 14) (40 * q + k) else f k) = (if k < 40 then j (y + 14) (40 * q + k) else f k)
        rw [e8, o_up_k (by omega), e7, o_up_k (by omega)]
      · have k1 : i8 b z = i7 b z := by
          rw [e8]
          by_cases e : b = y + 14
          · rw [o_up_k (fun w => hb ⟨e, by omega, by omega⟩)]
          · rw [o_up_a e]
        have k2 : i7 b z = j b z := by
          rw [e7]
          by_cases e : b = y + 14
          · rw [o_up_k (fun w => hb ⟨e, by omega, by omega⟩)]
          · rw [o_up_a e]
        rw [k1, k2]
        exact hj b z hb
theorem m_script {G : o_G} {d : Nat} {i : o_I} {r : o_R} {post : o_I → Prop} {y q n len b s e K : Nat} {f fq : Nat → Int32} {T : List Nat} (hm : ly_m G r y) (hq : q < 8) (hn : i (y + 5) q = nI n) (hn16 : n ≤ 16) (hl : i y 2 = nI len) (hl48 : len ≤ 48) (hf : f = fun z => i (y + 6) (16 * q + z)) (hfq : fq = fun z => i (y + 7) (16 * q + z)) (hlet : ∀ z, z < n → ∃ v : Nat, v ≤ 4 ∧ f z = nI v) (hb : b ≤ 1) (hbk : i (y + 12) q = nI b) (hfr : i (y + 9) q = nI s) (hto : i (y + 10) q = nI e) (hse : s < e) (hel : e ≤ len) (hK : K ≤ 3) (hd : dp (dp_c (sq_F n f b) (i (y + 3)) s) n (e - s) = K) (hT : T = tb (dp_c (sq_F n f b) (i (y + 3)) s) n (e - s))
    (h : ∀ j, ms_T j y q T → (∀ z, z < n → j (y + 15) z = sq_F n f b z ∧ j (y + 16) z = sq_FQ n fq b z) → mk_F y q i j → post j) : SpV G (d + 2) mX10_script [.ref y, .int (nI q)] post i r := by
  obtain ⟨eN, ZN⟩ := hm.2 7 5 1 8 rfl (by decide)
  obtain ⟨eD, ZD⟩ := hm.2 19 17 1 340 rfl (by decide)
  obtain ⟨eR, ZR⟩ := hm.2 17 15 1 16 rfl (by decide)
  obtain ⟨eB, ZB⟩ := hm.2 3 3 1 48 rfl (by decide)
  obtain ⟨eF, ZF⟩ := hm.2 11 9 1 8 rfl (by decide)
  obtain ⟨eT, ZT⟩ := hm.2 12 10 1 8 rfl (by decide)
  obtain ⟨eK, ZK⟩ := hm.2 14 12 1 8 rfl (by decide)
  obtain ⟨eP, ZP⟩ := hm.2 15 13 1 8 rfl (by decide)
  obtain ⟨eS, ZS⟩ := hm.2 16 14 1 320 rfl (by decide)
  have hcq : (nI q).toNatClampNeg = q := nI_clamp (by omega)
  have inq : vp_in (nI q) 8 := vp_in_nI (by omega) (by decide)
  generalize hc : dp_c (sq_F n f b) (i (y + 3)) s = c at hd hT
  have lo := dp_lo c n (e - s)
  have hTl := tb_len c _ n (e - s) rfl
  rw [← hT] at hTl
  -- the walk back
  have loop : ∀ u a b' m j, a + b' = u → a ≤ n → b' ≤ e - s → T.drop m = tb c a b' → m ≤ T.length → (∀ x z, x ≠ y + 14 → j x z = i x z ∨ x = y + 15 ∨ x = y + 16 ∨ x = y + 17) → (∀ z, ¬ (40 * q ≤ z ∧ z < 40 * q + 40) → j (y + 14) z = i (y + 14) z) → (∀ a' q', a' ≤ n → q' ≤ e - s → j (y + 17) (20 * a' + q') = nI (dp c a' q')) → (∀ z, z < n → j (y + 15) z = sq_F n f b z ∧ j (y + 16) z = sq_FQ n fq b z) → (∀ k, k < m → j (y + 14) (40 * q + k) = nI (T.getD k 0)) →
      Ok G (d + 2) mX10_script (fun v j q => q = r ∧ v = none ∧ post j) 52 [some (.ref y), some (.int (nI q)), some (.int (nI a)), some (.int (nI b')), some (.int (nI m)), none, none, none] [] j r := by
    intro u
    induction u using Nat.strongRecOn with
    | ind u ih =>
      intro a b' m j hu ha hb' hdrop hm' hj hj14 hDt hrow hst
      have jsame : ∀ x z, x ≠ y + 14 → x ≠ y + 15 → x ≠ y + 16 → x ≠ y + 17 → j x z = i x z := fun x z x1 x2 x3 x4 => by
        rcases hj x z x1 with w | w | w | w
        · exact w
        · exact absurd w x2
        · exact absurd w x3
        · exact absurd w x4
      by_cases h0 : a = 0 ∧ b' = 0
      · obtain ⟨rfl, rfl⟩ := h0
        have hml : m = T.length := by
          have := congrArg List.length hdrop
          rw [List.length_drop, tb_nil] at this
          simp at this
          omega
        refine sX10_script_52 y _ _ _ _ ⟨fun z => absurd z (by decide), fun _ => ⟨fun _ => ?_, fun z => absurd (by decide) z⟩⟩
        rw [eP, ZP.len, hcq]
        refine ⟨hm.1, ZP.Y, inq, fun i6 e6 => ?_⟩
        have j6 : ∀ x z, x ≠ y + 13 → i6 x z = j x z := fun x z hx => by rw [e6, o_up_a hx]
        refine m_script1 (L := m) (f := fun k => i6 (y + 14) (40 * q + k)) hm hq (by omega) (fun j2 a1 a2 => o_rv (h j2 ⟨?_, fun k hk => ?_⟩ (fun z hz => ?_) (fun x z x1 x2 x3 x4 x5 => ?_))) (m / 2) 0 i6 (by omega) (fun k => ?_) (fun _ _ _ => rfl)
        · rw [a2 _ _ (by omega), e6, o_up_s, hml]
        · rw [a1 k (by omega), j6 _ _ (by omega), hst _ (by omega), hml]
        · rw [a2 _ _ (by omega), a2 _ _ (by omega), j6 _ _ (by omega), j6 _ _ (by omega)]
          exact hrow z hz
        · rw [a2 x z x5]
          have k1 : i6 x z = j x z := by
            rw [e6]
            by_cases w : x = y + 13
            · rw [o_up_k (fun v => x4 ⟨w, v⟩)]
            · rw [o_up_a w]
          rw [k1]
          by_cases w : x = y + 14
          · rw [w]
            exact hj14 z (fun v => x5 ⟨w, v⟩)
          · exact jsame x z w x1 x2 x3
        · rw [if_neg (by omega)]
          show (if k < 40 then _ else _) = _
          split <;> rfl
      · have hab : 0 < a ∨ 0 < b' := by omega
        rw [tb_cons c hab] at hdrop
        obtain ⟨g1, g2, g3⟩ := drop_cons hdrop
        have hza : nI a ≤ 0 ↔ a ≤ 0 := nI_leI (b := 0) (by omega) (by decide)
        have hzb : nI b' ≤ 0 ↔ b' ≤ 0 := nI_leI (b := 0) (by omega) (by decide)
        have hc1 : ∀ a b, c a b ≤ 1 := fun a b => by rw [← hc]; exact dp_c1 _ _ _ _ _
        have bnd := dp_hi c hc1
        have next : Ok G (d + 2) mX10_script (fun v j q => q = r ∧ v = none ∧ post j) 60 [some (.ref y), some (.int (nI q)), some (.int (nI a)), some (.int (nI b')), some (.int (nI m)), none, none, none] [] j r := by
          have e20 : (20 : Int32) * nI a = nI (20 * a) := pk_mul 20 a
          have e40 : (40 : Int32) * nI q = nI (40 * q) := pk_mul 40 q
          have s1 : ∀ h0 : 0 < a, nI (20 * a) - 20 = nI (20 * (a - 1)) := fun h0 => by
            rw [show (20 : Int32) = nI 20 from rfl, pk_sub (by omega)]
            congr 1
            omega
          have vF : j (y + 9) q = nI s := by rw [jsame _ _ (by omega) (by omega) (by omega) (by omega)]; exact hfr
          have vB : j (y + 3) = i (y + 3) := funext (fun z => jsame _ z (by omega) (by omega) (by omega) (by omega))
          refine sX10_script_60 y _ _ _ _ ?_
          rw [e20, e40, eD, eR, eB, eF, eS, ZD.len, ZR.len, ZB.len, ZF.len, ZS.len, hcq, vF, vB, nI_add, nI_add, nI_add, nI_clamp (n := 20 * a + b') (by omega), nI_clamp (n := 40 * q + m) (by omega), hDt a b' ha hb']
          refine ⟨hm.1, ZD.Y, vp_in_nI (by omega) (by decide), fun x4 e4 => ⟨⟨fun _ => trivial, fun ha0 => ⟨fun _ => trivial, fun hb0 => ?_⟩⟩, fun x17 e17 => ⟨⟨fun _ => trivial, fun _ => ⟨fun _ => trivial, fun hb0 => ?_⟩⟩, fun x22 e22 x25 e25 => ⟨ZS.Y, vp_in_nI (by omega) (by decide), fun i28 e28 x29 e29 x31 e31 x34 e34 => ?_⟩⟩⟩⟩
          · rw [hza] at ha0
            rw [hzb] at hb0
            rw [s1 (by omega), nI_add, nI_m1 (by omega), nI_m1 (by omega), nI_m1 (by omega)]
            exact ⟨vp_in_nI (by omega) (by decide), ZR.Y, vp_in_nI (by omega) (by decide), ZF.Y, inq, ZB.Y, vp_in_nI (by omega) (by decide), trivial⟩
          · rw [hzb] at hb0
            rw [nI_m1 (by omega)]
            exact ⟨vp_in_nI (by omega) (by decide), trivial⟩
          · -- the step's values
            have t17 : x17 = if 0 < a ∧ 0 < b' ∧ dp c a b' = dp c (a - 1) (b' - 1) + c (a - 1) (b' - 1) then 1 else 0 := by
              rw [e17]
              by_cases h1 : a = 0
              · rw [if_pos (hza.mpr (by omega)), if_neg (by omega)]
              · rw [if_neg (fun w => h1 (by have := hza.mp w; omega))]
                by_cases h2 : b' = 0
                · rw [if_pos (hzb.mpr (by omega)), if_neg (by omega)]
                · rw [if_neg (fun w => h2 (by have := hzb.mp w; omega)), s1 (by omega), nI_add, nI_m1 (n := 20 * (a - 1) + b') (by omega), nI_clamp (n := 20 * (a - 1) + b' - 1) (by omega), show 20 * (a - 1) + b' - 1 = 20 * (a - 1) + (b' - 1) by omega, hDt (a - 1) (b' - 1) (by omega) (by omega), nI_m1 (n := a) (by omega), nI_clamp (n := a - 1) (by omega), nI_m1 (n := s + b') (by omega), nI_clamp (n := s + b' - 1) (by omega), (hrow (a - 1) (by omega)).1, e4]
                  have bb := bnd (a - 1) (b' - 1)
                  have bb2 := bnd a b'
                  have ccv : c (a - 1) (b' - 1) = if sq_F n f b (a - 1) = i (y + 3) (s + b' - 1) then 0 else 1 := by
                    rw [← hc]
                    unfold dp_c
                    rw [show s + (b' - 1) = s + b' - 1 by omega]
                  by_cases h3 : sq_F n f b (a - 1) = i (y + 3) (s + b' - 1)
                  · rw [if_pos h3] at ccv ⊢
                    rw [ccv, show (0 : Int32) = nI 0 from rfl, nI_add]
                    by_cases h4 : dp c a b' = dp c (a - 1) (b' - 1) + 0
                    · rw [if_pos (by rw [h4]), if_pos ⟨by omega, by omega, h4⟩]
                    · rw [if_neg (fun w => h4 ((nI_eq (by omega) (by omega)).mp w)), if_neg (fun w => h4 w.2.2)]
                  · rw [if_neg h3] at ccv ⊢
                    rw [ccv, nI_1]
                    by_cases h4 : dp c a b' = dp c (a - 1) (b' - 1) + 1
                    · rw [if_pos (by rw [h4]), if_pos ⟨by omega, by omega, h4⟩]
                    · rw [if_neg (fun w => h4 ((nI_eq (by omega) (by omega)).mp w)), if_neg (fun w => h4 w.2.2)]
            have t22 : x17 = 0 → x22 = if 0 < b' ∧ dp c a b' = dp c a (b' - 1) + 1 then 1 else 0 := by
              intro h17
              rw [e22, if_pos h17]
              by_cases h2 : b' = 0
              · rw [if_pos (hzb.mpr (by omega)), if_neg (by omega)]
              · have bb := bnd a (b' - 1)
                have bb2 := bnd a b'
                rw [if_neg (fun w => h2 (by have := hzb.mp w; omega)), nI_m1 (n := 20 * a + b') (by omega), nI_clamp (n := 20 * a + b' - 1) (by omega), show 20 * a + b' - 1 = 20 * a + (b' - 1) by omega, hDt a (b' - 1) (by omega) (by omega), e4, nI_1]
                by_cases h4 : dp c a b' = dp c a (b' - 1) + 1
                · rw [if_pos (by rw [h4]), if_pos ⟨by omega, h4⟩]
                · rw [if_neg (fun w => h4 ((nI_eq (by omega) (by omega)).mp w)), if_neg (fun w => h4 w.2)]
            have all : x25 = nI (tb_st c a b') ∧ x31 = nI (tb_a (tb_st c a b') a) ∧ x34 = nI (tb_b (tb_st c a b') b') := by
              unfold tb_a tb_b tb_st
              by_cases h1 : 0 < a ∧ 0 < b' ∧ dp c a b' = dp c (a - 1) (b' - 1) + c (a - 1) (b' - 1)
              · rw [if_pos h1] at t17
                rw [t17, if_neg (by decide)] at e22 e25 e34
                rw [e22, if_pos rfl, nI_m1 (by omega)] at e31
                rw [nI_m1 (by omega)] at e34
                rw [if_neg (show ¬ a = 0 by omega), if_neg (show ¬ b' = 0 by omega), if_pos h1.2.2, if_neg (by decide), if_neg (by decide)]
                exact ⟨e25, e31, e34⟩
              · rw [if_neg h1] at t17
                have t22' := t22 t17
                rw [t17, if_pos rfl] at e25 e34
                by_cases h2 : 0 < b' ∧ dp c a b' = dp c a (b' - 1) + 1
                · rw [if_pos h2] at t22'
                  rw [t22', if_neg (by decide)] at e25 e34 e31
                  rw [nI_m1 (by omega)] at e34
                  have hst : (if a = 0 then 2 else if b' = 0 then 3 else if dp c a b' = dp c (a - 1) (b' - 1) + c (a - 1) (b' - 1) then 1 else if dp c a b' = dp c a (b' - 1) + 1 then 2 else 3) = 2 := by
                    by_cases h3 : a = 0
                    · rw [if_pos h3]
                    · rw [if_neg h3, if_neg (by omega), if_neg (fun w => h1 ⟨by omega, by omega, w⟩), if_pos h2.2]
                  rw [hst, if_pos rfl, if_neg (by decide)]
                  exact ⟨e25, e31, e34⟩
                · rw [if_neg h2] at t22'
                  rw [t22', if_pos rfl] at e25 e34 e31
                  have ha1 : 0 < a := by
                    rcases Nat.eq_zero_or_pos a with w | w
                    · exact absurd ⟨by omega, by rw [w, dp_0, dp_0]; omega⟩ h2
                    · exact w
                  rw [nI_m1 (by omega)] at e31
                  have hst : (if a = 0 then 2 else if b' = 0 then 3 else if dp c a b' = dp c (a - 1) (b' - 1) + c (a - 1) (b' - 1) then 1 else if dp c a b' = dp c a (b' - 1) + 1 then 2 else 3) = 3 := by
                    rw [if_neg (by omega)]
                    by_cases h3 : b' = 0
                    · rw [if_pos h3]
                    · rw [if_neg h3, if_neg (fun w => h1 ⟨by omega, by omega, w⟩), if_neg (fun w => h2 ⟨by omega, w⟩)]
                  rw [hst, if_neg (by decide), if_pos rfl]
                  exact ⟨e25, e31, e34⟩
            obtain ⟨r1, r2, r3⟩ := all
            have hless := tb_less c hab
            have hle2 : tb_a (tb_st c a b') a ≤ a ∧ tb_b (tb_st c a b') b' ≤ b' := by
              unfold tb_a tb_b
              constructor <;> split <;> omega
            rw [r2, r3, e29, nI_1]
            refine ih _ (by omega) _ _ (m + 1) i28 rfl (by omega) (by omega) g3 (by omega) (fun x z hx => ?_) (fun z hz => ?_) (fun a' q' h1 h2 => ?_) (fun z hz => ?_) (fun k hk => ?_)
            · rw [e28, o_up_a hx]
              exact hj x z hx
            · rw [e28, o_up_k (by omega)]
              exact hj14 z hz
            · rw [e28, o_up_a (by omega)]
              exact hDt a' q' h1 h2
            · rw [e28, o_up_a (by omega), o_up_a (by omega)]
              exact hrow z hz
            · rw [e28]
              by_cases ek : k = m
              · rw [ek, o_up_s, r1, g2]
              · rw [o_up_k (by omega)]
                exact hst k (by omega)
        exact sX10_script_52 y _ _ _ _ ⟨fun _ => next, fun ha0 => ⟨fun hb0 => absurd (nI_lt (a := 0) (b := a) (by have := hzb.mp hb0; omega) (by omega)) ha0, fun _ => next⟩⟩
  refine sp_of 6 (by decide +kernel) (Nat.le_of_ble_eq_true rfl) rfl (sX10_script_0 y _ ⟨hm.1, ?_⟩)
  rw [eK, ZK.len, eN, ZN.len, eF, ZF.len, eT, ZT.len, hcq, hbk]
  refine ⟨ZK.Y, inq, m_turn (d := d) (n := n) hm hq hb hn hn16 (fun z hz => by have := hlet z hz; rw [hf] at this; exact this) (fun i4 t1 t2 => ?_)⟩
  rw [← hf, ← hfq] at t1
  rw [t2 _ _ (by omega) (by omega), t2 _ _ (by omega) (by omega), hn, hfr]
  refine ⟨ZN.Y, inq, ZF.Y, inq, m_measure (d := d) hm hn16 (by rw [t2 _ _ (by omega) (by omega)]; exact hl) hl48 (by omega) rfl (fun i9 a1 a2 x10 e10 => ⟨ZT.Y, inq, fun x13 e13 => ?_⟩)⟩
  rw [a1 _ _ (by omega), t2 _ _ (by omega) (by omega), hn] at e10
  rw [a1 _ _ (by omega), t2 _ _ (by omega) (by omega), a1 _ _ (by omega), t2 _ _ (by omega) (by omega), hto, hfr, pk_sub (by omega)] at e13
  rw [e10, e13]
  have hg : i4 (y + 3) = i (y + 3) := funext (fun z => t2 _ z (by omega) (by omega))
  refine loop _ n (e - s) 0 i9 rfl (Nat.le_refl n) (Nat.le_refl _) hT (Nat.zero_le _) (fun x z hx => ?_) (fun z _ => ?_) (fun a' q' h1 h2 => ?_) (fun z hz => ?_) (fun k hk => absurd hk (Nat.not_lt_zero k))
  · by_cases w : x = y + 17
    · exact Or.inr (Or.inr (Or.inr w))
    · by_cases w2 : x = y + 15
      · exact Or.inr (Or.inl w2)
      · by_cases w3 : x = y + 16
        · exact Or.inr (Or.inr (Or.inl w3))
        · exact Or.inl (by rw [a1 x z w, t2 x z w2 w3])
  · rw [a1 _ _ (by omega), t2 _ _ (by omega) (by omega)]
  · rw [a2 a' q' h1 (by omega), hg, ← hc]
    congr 1
    refine dp_cong a' q' (fun a b h3 h4 => ?_)
    unfold dp_c
    rw [(t1 a (by omega)).1]
  · rw [a1 _ _ (by omega), a1 _ _ (by omega)]
    exact t1 z hz

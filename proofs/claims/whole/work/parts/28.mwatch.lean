/-! THE REFERENCE: watch -/
theorem mw_put {ni dg cl pin v : Nat} (h : mw_P ni dg cl pin) (hv : v ≤ 4) : mw_P (ni + 1) (4 * dg + v % 4) (if cl = 0 then 0 else if 4 ≤ v then 0 else 1) (wt_wl pin (nI v)) := by
  obtain ⟨h1, h2⟩ := h
  have e4 : 4 ^ (ni + 1) = 4 ^ ni * 4 := Nat.pow_succ ..
  have hv4 : nI v = 4 ↔ v = 4 := nI_eq (b := 4) (by omega) (by decide)
  have hpos : 0 < 4 ^ ni := Nat.pow_pos (by decide)
  refine ⟨by omega, ?_⟩
  unfold wt_wl
  rcases h2 with ⟨c1, c2⟩ | ⟨c1, c2, c3⟩
  · rw [if_neg (by omega)]
    by_cases z : 4 ≤ v
    · rw [if_pos z, if_pos (Or.inr (hv4.mpr (by omega)))]
      exact Or.inr ⟨rfl, rfl, by omega⟩
    · rw [if_neg z, if_neg (by rintro (w | w); omega; exact z (by have := hv4.mp w; omega)), nI_clamp (by omega)]
      exact Or.inl ⟨rfl, by omega⟩
  · rw [if_pos c1, if_pos (Or.inl c2)]
    exact Or.inr ⟨rfl, rfl, by omega⟩
def mw_F (y : Nat) (i j : o_I) : Prop := ∀ a k, ¬ (a = y ∧ (k = 20 ∨ k = 24)) → (a < y + 18 ∨ y + 23 < a) → j a k = i a k
theorem m_watch {G : o_G} {d : Nat} {i : o_I} {r : o_R} {post : o_I → Prop} {y q n s : Nat} {T : List Nat} {L Q : Nat → Int32} {B : List ob_B} {K : List ob_K} (hm : ly_m G r y) (hq : q < 8) (hT : ms_T i y q T) (hT19 : T.length ≤ 19) (hfr : i (y + 9) q = nI s) (hrow : ∀ z, z < n → i (y + 15) z = L z ∧ i (y + 16) z = Q z) (hlet : ∀ z, z < n → ∃ v : Nat, v ≤ 4 ∧ L z = nI v) (hn16 : n ≤ 16) (hnA : nA T = n) (hnB : s + nB T ≤ 48) (hnC : nC T ≤ 3) (h123 : ∀ t ∈ T, t = 1 ∨ t = 2 ∨ t = 3) (hB : mb_S i y B) (hK : mk_S i y K) (hBn : B.length + n ≤ 128) (hKn : K.length + n ≤ 128)
    (h : ∀ j, mb_S j y (B ++ wtB L Q T.reverse 0 s) → mk_S j y (K ++ wtK L Q T.reverse 0 s none 0 1) → mw_F y i j → post j) : SpV G (d + 2) mX10_watch [.ref y, .int (nI q)] post i r := by
  obtain ⟨eP, ZP⟩ := hm.2 15 13 1 8 rfl (by decide)
  obtain ⟨eS, ZS⟩ := hm.2 16 14 1 320 rfl (by decide)
  obtain ⟨eR, ZR⟩ := hm.2 17 15 1 16 rfl (by decide)
  obtain ⟨eQ, ZQ⟩ := hm.2 18 16 1 16 rfl (by decide)
  obtain ⟨eF, ZF⟩ := hm.2 11 9 1 8 rfl (by decide)
  have hcq : (nI q).toNatClampNeg = q := nI_clamp (by omega)
  have inq : vp_in (nI q) 8 := vp_in_nI (by omega) (by decide)
  have loop : ∀ (W' : List Nat) m a p v4 v5 last lo ni dg cl pin dB dK j, T.reverse.drop m = W' → m ≤ T.length → a + nA W' = n → p + nB W' ≤ 48 → lo + nC W' ≤ 3 → ni + nC W' ≤ 3 → cl ≤ 1 → mw_P ni dg cl pin → (∀ t ∈ W', t = 1 ∨ t = 2 ∨ t = 3) → mw_L Q v4 v5 p last → mb_S j y (B ++ dB) → mk_S j y (K ++ dK) → dB.length + nA W' ≤ n → dK.length + nA W' ≤ n → mw_F y i j → wtB L Q T.reverse 0 s = dB ++ wtB L Q W' a p → wtK L Q T.reverse 0 s none 0 1 = dK ++ wtK L Q W' a p last lo pin →
      Ok G (d + 2) mX10_watch (fun v j q => q = r ∧ v = none ∧ post j) 30 [some (.ref y), some (.int (nI q)), some (.int (nI a)), some (.int (nI p)), some (.int v4), some (.int v5), some (.int (nI lo)), some (.int (nI ni)), some (.int (nI dg)), some (.int (nI cl)), some (.int (nI m)), none, none, none] [] j r := by
    intro W'
    induction W' with
    | nil =>
      intro m a p v4 v5 last lo ni dg cl pin dB dK j hdr hm' ha hp hlo hni hcl hw ht hla hBj hKj hdB hdK hF eB eK
      have hml : m = T.length := by
        have := congrArg List.length hdr
        rw [List.length_drop, List.length_reverse] at this
        simp at this
        omega
      refine sX10_watch_30 y _ _ _ _ _ _ _ _ _ _ ?_
      rw [eP, ZP.len, hcq, hF (y + 13) q (by omega) (by omega), hT.1]
      refine ⟨hm.1, ZP.Y, inq, fun _ => o_rv (h j ?_ ?_ hF), fun hn => absurd (nI_le (by omega) (by omega)) hn⟩
      · rw [eB]
        show mb_S j y (B ++ (dB ++ []))
        rw [List.append_nil]
        exact hBj
      · rw [eK]
        show mk_S j y (K ++ (dK ++ []))
        rw [List.append_nil]
        exact hKj
    | cons t W' ih =>
      intro m a p v4 v5 last lo ni dg cl pin dB dK j hdr hm' ha hp hlo hni hcl hw ht hla hBj hKj hdB hdK hF eB eK
      obtain ⟨g1, g2, g3⟩ := drop_cons hdr
      rw [List.length_reverse] at g1
      rw [rev_getD g1] at g2
      have t123 := ht t List.mem_cons_self
      rw [nA_cons] at ha hdB hdK
      rw [nB_cons] at hp
      rw [nC_cons] at hlo hni
      have e40 : (40 : Int32) * nI q = nI (40 * q) := pk_mul 40 q
      refine sX10_watch_30 y _ _ _ _ _ _ _ _ _ _ ?_
      rw [eP, ZP.len, hcq, hF (y + 13) q (by omega) (by omega), hT.1, eS, ZS.len, e40, nI_add, nI_clamp (n := 40 * q + m) (by omega), hF (y + 14) (40 * q + m) (by omega) (by omega), hT.2 m g1, g2, eR, ZR.len, eQ, ZQ.len]
      refine ⟨hm.1, ZP.Y, inq, fun hle => absurd hle (nI_ge g1 (by omega)), fun _ => ⟨ZS.Y, vp_in_nI (by omega) (by decide), fun x7 e7 => ?_⟩⟩
      subst e7
      have nxt : ∀ x : Int32, x = nI m + 1 → x = nI (m + 1) := fun x hx => by rw [hx, nI_1]
      rcases t123 with rfl | rfl | rfl
      · -- a match
        simp at ha hp hlo hni hdB hdK
        obtain ⟨v, hv, ev⟩ := hlet a (by omega)
        obtain ⟨w1, w2⟩ := hrow a (by omega)
        have jR : j (y + 15) a = nI v := by rw [hF _ _ (by omega) (by omega), w1, ev]
        have jQ : j (y + 16) a = Q a := by rw [hF _ _ (by omega) (by omega), w2]
        rw [nI_clamp (n := a) (by omega), jR, jQ]
        refine ⟨fun z => absurd rfl z, fun _ => ⟨ZQ.Y, vp_in_nI (by omega) (by decide), fun x32 e32 => ?_⟩⟩
        subst e32
        have hv4 : nI v = 4 ↔ v = 4 := nI_eq (b := 4) (by omega) (by decide)
        -- behind the base
        have rest : ∀ j2, mb_S j2 y (B ++ (dB ++ wt_b1 L Q a p)) → mk_S j2 y (K ++ dK) → mw_F y i j2 → Ok G (d + 2) mX10_watch (fun v j q => q = r ∧ v = none ∧ post j) 92 [some (.ref y), some (.int (nI q)), some (.int (nI a)), some (.int (nI p)), some (.int v4), some (.int v5), some (.int (nI lo)), some (.int (nI ni)), some (.int (nI dg)), some (.int (nI cl)), some (.int (nI m)), some (.int (nI 1)), some (.int (Q a)), none] [] j2 r := by
          intro j2 B2 K2 F2
          refine m_links (a := a) (lo := lo) (pin := pin) hm K2 (by rw [List.length_append]; omega) hla (by omega) hw (by omega) (by omega) (fun j3 K3 F3 => ?_)
          rw [List.append_assoc] at K3
          refine sX10_watch_192 y _ _ _ _ _ _ (fun x2 e2 x4 e4 x5 e5 => ?_)
          rw [if_neg (by decide), nI_1] at e2 e4
          rw [e2, e4, nxt x5 e5]
          refine ih (m + 1) (a + 1) (p + 1) _ _ (some (a, p)) 0 0 0 1 1 (dB ++ wt_b1 L Q a p) (dK ++ wt_one Q a last lo pin) j3 g3 (by omega) (by omega) (by omega) (by omega) (by omega) (by omega) ⟨by decide, Or.inl ⟨rfl, rfl⟩⟩ (fun t ht' => ht t (List.mem_cons_of_mem _ ht')) ⟨rfl, rfl, by omega⟩ (mb_same B2 (F3 y 20 (by omega) (by omega)) (fun a k h1 h2 => F3 a k (by omega) (by omega))) K3 ?_ ?_ (fun a k h1 h2 => by rw [F3 a k (by omega) (by omega)]; exact F2 a k h1 h2) ?_ ?_
          · rw [List.length_append]
            have : (wt_b1 L Q a p).length ≤ 1 := by unfold wt_b1; split <;> simp
            omega
          · rw [List.length_append]
            have : (wt_one Q a last lo pin).length ≤ 1 := by
              unfold wt_one
              split
              · exact Nat.zero_le _
              · split
                · exact Nat.zero_le _
                · exact Nat.le_refl _
            omega
          · rw [eB, List.append_assoc]
            rfl
          · rw [eK, List.append_assoc]
            rfl
        refine ⟨ZR.Y, vp_in_nI (by omega) (by decide), fun h4 => ?_, fun h4 => ?_⟩
        · have : v = 4 := by
            have := (nI_leI (a := 4) (b := v) (by decide) (by omega)).mp h4
            omega
          refine rest j ?_ hKj hF
          unfold wt_b1
          rw [if_pos (by rw [ev]; exact hv4.mpr this), List.append_nil]
          exact hBj
        · have : ¬ v = 4 := fun z => h4 (nI_le (a := 4) (b := v) (by omega) (by omega))
          refine m_seeBase (B := B ++ dB) hm hBj (by rw [List.length_append]; omega) (fun j2 B2 F2 => rest j2 ?_ (mk_same hKj (F2 y 24 (by omega) (by omega)) (fun a k h1 h2 => F2 a k (by omega) (by omega))) (fun a k h1 h2 => by rw [F2 a k (by omega) (by omega)]; exact hF a k h1 h2))
          unfold wt_b1
          rw [if_neg (by rw [ev]; exact fun z => this (hv4.mp z)), ev, ← List.append_assoc]
          exact B2
      · -- a position left out
        simp at ha hp hlo hni hdB hdK
        refine ⟨fun _ => ⟨⟨fun z => absurd rfl z, fun _ => trivial⟩, fun x18 e18 x19 e19 x20 e20 x21 e21 x23 e23 x25 e25 x26 e26 => ?_⟩, fun z => absurd z (by decide)⟩
        rw [if_pos (by decide)] at e18 e19 e20 e21 e23
        rw [if_neg (by decide), nI_1] at e25
        rw [nI_1] at e18
        rw [e18, e19, e20, e21, e23, e25, nxt x26 e26]
        refine ih (m + 1) a (p + 1) _ _ last (lo + 1) ni dg cl pin dB dK j g3 (by omega) (by omega) (by omega) (by omega) (by omega) hcl hw (fun t ht' => ht t (List.mem_cons_of_mem _ ht')) ?_ hBj hKj (by omega) (by omega) hF eB eK
        match last, hla with
        | none, hla => exact hla
        | some (a0, p0), hla => exact ⟨hla.1, hla.2.1, by have := hla.2.2; omega⟩
      · -- a letter put in
        simp at ha hp hlo hni hdB hdK
        obtain ⟨v, hv, ev⟩ := hlet a (by omega)
        have jR : j (y + 15) a = nI v := by rw [hF _ _ (by omega) (by omega), (hrow a (by omega)).1, ev]
        rw [nI_clamp (n := a) (by omega), jR]
        refine ⟨fun _ => ⟨⟨fun _ => ⟨fun _ => ⟨ZR.Y, vp_in_nI (by omega) (by decide), trivial⟩, fun _ => ⟨ZR.Y, vp_in_nI (by omega) (by decide), trivial⟩⟩, fun _ => trivial⟩, fun x18 e18 x19 e19 x20 e20 x21 e21 x23 e23 x25 e25 x26 e26 => ?_⟩, fun z => absurd z (by decide)⟩
        rw [if_neg (by decide)] at e18 e19 e20 e21 e23
        rw [if_pos (by decide)] at e25
        rw [nI_1] at e23
        have hdg : dg < 64 := by
          have h1 := hw.1
          have : 4 ^ ni ≤ 4 ^ 3 := Nat.pow_le_pow_right (by decide) (by omega)
          omega
        have e18 : x18 = nI lo := by
          rw [e18]
          split
          · rfl
          · split <;> rfl
        have e19 : x19 = nI (ni + 1) := by
          rw [e19, ← nI_1]
          split
          · rfl
          · split <;> rfl
        have e20 : x20 = nI (4 * dg + v % 4) := by
          have e : (4 : Int32) * nI dg + (nI v - nI v / 4 * 4) = nI (4 * dg + v % 4) := by
            rw [show (4 : Int32) * nI dg = nI (4 * dg) from pk_mul 4 dg, show nI v - nI v / 4 * 4 = nI (v % 4) from pk_rem (a := v) (d := 4) (by omega) (by decide) (by decide), nI_add]
          rw [e20, e]
          split
          · rfl
          · split <;> rfl
        have hcl0 : nI cl = 0 ↔ cl = 0 := nI_eq (b := 0) (by omega) (by decide)
        have e21 : x21 = nI (if cl = 0 then 0 else if 4 ≤ v then 0 else 1) := by
          rw [e21]
          by_cases z : cl = 0
          · rw [if_pos (hcl0.mpr z), if_pos z]
            rfl
          · rw [if_neg (fun w => z (hcl0.mp w)), if_neg z]
            by_cases z2 : 4 ≤ v
            · rw [if_pos (show (4 : Int32) ≤ nI v from nI_le (a := 4) (b := v) z2 (by omega)), if_pos z2]
              rfl
            · rw [if_neg (show ¬ (4 : Int32) ≤ nI v from nI_ge (a := v) (b := 4) (by omega) (by decide)), if_neg z2]
              rfl
        rw [e18, e19, e20, e21, e23, e25, nxt x26 e26]
        refine ih (m + 1) (a + 1) p _ _ last lo (ni + 1) _ _ _ dB dK j g3 (by omega) (by omega) (by omega) (by omega) (by omega) (by split; omega; split <;> omega) (mw_put hw hv) (fun t ht' => ht t (List.mem_cons_of_mem _ ht')) hla hBj hKj (by omega) (by omega) hF eB ?_
        rw [← ev]
        exact eK
  refine sp_of 12 (by decide +kernel) (Nat.le_of_ble_eq_true rfl) rfl (sX10_watch_0 y _ ?_)
  rw [eF, ZF.len, hcq, hfr]
  refine ⟨hm.1, ZF.Y, inq, fun x4 e4 => ?_⟩
  rw [e4]
  refine loop T.reverse 0 0 s _ _ none 0 0 0 1 1 [] [] i rfl (Nat.zero_le _) ?_ ?_ ?_ ?_ (by decide) ⟨by decide, Or.inl ⟨rfl, rfl⟩⟩ (fun t ht => h123 t (List.mem_reverse.mp ht)) rfl (by rw [List.append_nil]; exact hB) (by rw [List.append_nil]; exact hK) ?_ ?_ (fun _ _ _ _ => rfl) rfl rfl
  · rw [nA_rev]
    omega
  · rw [nB_rev]
    exact hnB
  · rw [nC_rev]
    omega
  · rw [nC_rev]
    omega
  · rw [nA_rev]
    simp
    omega
  · rw [nA_rev]
    simp
    omega

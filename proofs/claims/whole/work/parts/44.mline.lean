/-! THE REFERENCE: outGain, greatestLoss, outAlternative, outLine, outHead -/
def fm (lk c : Nat) : Nat := if lk = 0 then c else mc c
theorem mc_lt {g : Nat} (hv : lk_V g) : (mc g < 10 ↔ g < 4) ∧ mc g ≤ 103 := by
  unfold mc lk_V at *
  split
  · omega
  · split
    · omega
    · split <;> omega
theorem mc_mono : jd_mono mc lk_V := by
  intro x y hx hy
  unfold mc lk_V at *
  split <;> split <;> (try split) <;> (try split) <;> (try split) <;> (try split) <;> omega
theorem mc_small {g : Nat} (h : g < 4) : mc g = g := by unfold mc; rw [if_pos h]
theorem m_outGain {G : o_G} {d : Nat} {i : o_I} {r : o_R} {post : o_I → Prop} {y g : Nat} {l : List Nat} {w : Int32} (hm : ly_m G r y) (hv : lk_V g) (h4 : 4 ≤ g) (hS : wo_S i y l w) (hl : l.length + (tw_gn g).length ≤ 2229) (h : ∀ j, wo_S j y (l ++ tw_gn g) w → wo_F y i j → post j) : SpV G (d + 3) mX10_outGain [.ref y, .int (nI (mc g))] post i r := by
  have out : ∀ e dg l2 j, e ≤ 2 → dg < 64 → dg % 4 ^ (e + 1) = g % 4 ^ (e + 1) → l2 ++ tw_gs g e = l ++ tw_gn g → wo_S j y l2 w → wo_F y i j → Ok G (d + 3) mX10_outGain (fun v j q => q = r ∧ v = none ∧ post j) 69 [some (.ref y), none, none, some (.int (nI dg)), some (.int (nI (4 ^ e)))] [] j r := by
    intro e
    induction e with
    | zero =>
      intro dg l2 j he hdg hm4 el S F
      refine sX10_outGain_69 y _ _ ⟨fun w => absurd w (by decide), fun _ => ⟨by decide, hm.1, ?_⟩⟩
      have e1 : nI dg / nI (4 ^ 0) = nI dg := by rw [pk_div (by omega) (by decide) (by decide)]; congr 1; exact Nat.div_one dg
      have hmm : dg % 4 = g % 4 := hm4
      rw [e1, show nI dg - nI dg / 4 * 4 = nI (dg % 4) from pk_rem (a := dg) (d := 4) (by omega) (by decide) (by decide), hmm]
      have el2 : l2 ++ ([tw_b (g % 4)] ++ []) = l ++ tw_gn g := el
      refine m_outBase hm (Nat.mod_lt _ (by decide)) S (tw_lt el2 (by rw [List.length_append]; exact hl)) (fun j2 S2 F2 x9 e9 => ?_)
      have e9 : x9 = 0 := by rw [e9]; decide
      rw [e9]
      refine sX10_outGain_69 y _ _ ⟨fun _ => o_rv (h j2 ?_ (F.trans F2)), fun w => absurd (by decide) w⟩
      rw [← el]
      exact S2
    | succ e ih =>
      intro dg l2 j he hdg hm4 el S F
      have hp : 0 < 4 ^ (e + 1) := Nat.pow_pos (by decide)
      have hp2 : 4 ^ (e + 1) ≤ 4 ^ 2 := Nat.pow_le_pow_right (by decide) he
      have hp3 : 4 ^ (e + 1) < 2 ^ 31 := by omega
      have z0 : nI (4 ^ (e + 1)) ≤ 0 ↔ 4 ^ (e + 1) ≤ 0 := nI_leI (b := 0) hp3 (by decide)
      have z1 : nI (4 ^ (e + 1)) = 0 ↔ 4 ^ (e + 1) = 0 := nI_eq (b := 0) hp3 (by decide)
      refine sX10_outGain_69 y _ _ ⟨fun w => absurd (z0.mp w) (by omega), fun _ => ⟨fun w => absurd (z1.mp w) (by omega), hm.1, ?_⟩⟩
      have hq : dg / 4 ^ (e + 1) ≤ dg := Nat.div_le_self _ _
      have key : ∀ x : Nat, x / 4 ^ (e + 1) % 4 = x % 4 ^ (e + 2) / 4 ^ (e + 1) := fun x => by rw [show 4 ^ (e + 2) = 4 ^ (e + 1) * 4 from Nat.pow_succ .., Nat.mod_mul_right_div_self]
      have hdd : dg / 4 ^ (e + 1) % 4 = g / 4 ^ (e + 1) % 4 := by rw [key, key, hm4]
      rw [pk_div (by omega) hp hp3, show nI (dg / 4 ^ (e + 1)) - nI (dg / 4 ^ (e + 1)) / 4 * 4 = nI (dg / 4 ^ (e + 1) % 4) from pk_rem (a := dg / 4 ^ (e + 1)) (d := 4) (by omega) (by decide) (by decide), hdd]
      have el2 : l2 ++ ([tw_b (g / 4 ^ (e + 1) % 4)] ++ tw_gs g e) = l ++ tw_gn g := el
      refine m_outBase hm (Nat.mod_lt _ (by decide)) S (tw_lt el2 (by rw [List.length_append]; exact hl)) (fun j2 S2 F2 x9 e9 => ?_)
      have e9 : x9 = nI (4 ^ e) := by
        rw [e9, show (4 : Int32) = nI 4 from rfl, pk_div hp3 (by decide) (by decide)]
        congr 1
        rw [Nat.pow_succ, Nat.mul_div_cancel _ (by decide)]
      rw [e9]
      refine ih dg _ j2 (by omega) hdg ?_ (tw_nx el2) S2 (F.trans F2)
      have hdv : 4 ^ (e + 1) ∣ 4 ^ (e + 2) := Nat.pow_dvd_pow 4 (by omega)
      rw [← Nat.mod_mod_of_dvd dg hdv, ← Nat.mod_mod_of_dvd g hdv, hm4]
  refine sp_of 3 (by decide +kernel) (Nat.le_of_ble_eq_true rfl) rfl (sX10_outGain_0 y _ (fun x3 e3 x6 e6 x7 e7 x10 e10 => ?_))
  have hm103 := (mc_lt hv).2
  have z20 : (20 : Int32) ≤ nI (mc g) ↔ 20 ≤ mc g := nI_leI (a := 20) (by decide) (by omega)
  have z40 : (40 : Int32) ≤ nI (mc g) ↔ 40 ≤ mc g := nI_leI (a := 40) (by decide) (by omega)
  have cases : (g ≤ 7 ∧ mc g = g - 4 + 10) ∨ (16 ≤ g ∧ g ≤ 31 ∧ mc g = g - 16 + 20) ∨ (64 ≤ g ∧ g ≤ 127 ∧ mc g = g - 64 + 40) := by
    unfold mc lk_V at *
    split
    · omega
    · split
      · omega
      · split <;> omega
  rcases cases with ⟨c1, c2⟩ | ⟨c1, c2, c3⟩ | ⟨c1, c2, c3⟩
  · rw [if_neg (fun q => by have := z20.mp q; omega)] at e3
    subst e3
    rw [if_pos rfl] at e6 e10
    rw [e6, c2, show (10 : Int32) = nI 10 from rfl, pk_sub (by omega), show g - 4 + 10 - 10 = g - 4 by omega] at e7
    rw [e7, e10]
    exact out 0 (g - 4) l i (by decide) (by omega) (by show (g - 4) % 4 = g % 4; omega) (by unfold tw_gn; rw [if_pos (by omega)]; rfl) hS (fun _ _ _ => rfl)
  · rw [if_pos (z20.mpr (by omega)), if_neg (fun q => by have := z40.mp q; omega)] at e3
    subst e3
    rw [if_neg (by decide), if_pos rfl] at e6 e10
    rw [e6, c3, show (20 : Int32) = nI 20 from rfl, pk_sub (by omega), show g - 16 + 20 - 20 = g - 16 by omega] at e7
    rw [e7, e10]
    exact out 1 (g - 16) l i (by decide) (by omega) (by show (g - 16) % 16 = g % 16; omega) (by unfold tw_gn; rw [if_neg (by omega), if_pos (by omega)]; rfl) hS (fun _ _ _ => rfl)
  · rw [if_pos (z20.mpr (by omega)), if_pos (z40.mpr (by omega))] at e3
    subst e3
    rw [if_neg (by decide), if_neg (by decide)] at e6 e10
    rw [e6, c3, show (40 : Int32) = nI 40 from rfl, pk_sub (by omega), show g - 64 + 40 - 40 = g - 64 by omega] at e7
    rw [e7, e10]
    exact out 2 (g - 64) l i (by decide) (by omega) (by show (g - 64) % 64 = g % 64; omega) (by unfold tw_gn; rw [if_neg (by omega), if_neg (by omega)]; rfl) hS (fun _ _ _ => rfl)
/-- the reference's judgement, in the class's numbers -/
def md_L (i : o_I) (y lk p : Nat) (s : jd_s) (al : List Nat) : Prop := i y 28 = nI lk ∧ i y 29 = nI p ∧ i y 30 = nI s.length ∧ i y 31 = nI al.length ∧ (∀ k c, al[k]? = some c → fm lk c ≤ 103 ∧ i (y + 24) k = nI (fm lk c) ∧ i (y + 25) (fm lk c) = nI (jd_n s c)) ∧ i y 35 = nI (jd_np al.length) ∧ (∀ k, k < jd_np al.length → i (y + 26) k = nI (jd_pk s al k)) ∧ i y 36 = nI (jd_co s al)
theorem md_LF {i j : o_I} {y lk p : Nat} {s : jd_s} {al : List Nat} (h : md_L i y lk p s al) (hF : wo_F y i j) : md_L j y lk p s al := by
  obtain ⟨a1, a2, a3, a4, a5, a6, a7, a8⟩ := h
  exact ⟨by rw [hF _ _ (by omega)]; exact a1, by rw [hF _ _ (by omega)]; exact a2, by rw [hF _ _ (by omega)]; exact a3, by rw [hF _ _ (by omega)]; exact a4, fun k c hk => by rw [hF _ _ (by omega), hF _ _ (by omega)]; exact a5 k c hk, by rw [hF _ _ (by omega)]; exact a6, fun k hk => by rw [hF _ _ (by omega)]; exact a7 k hk, by rw [hF _ _ (by omega)]; exact a8⟩
theorem m_greatestLoss {G : o_G} {d : Nat} {i : o_I} {r : o_R} {post : Int32 → o_I → Prop} {y lk p : Nat} {s : jd_s} {al : List Nat} (hm : ly_m G r y) (hk1 : lk ≤ 1) (hL : md_L i y lk p s al) (h1 : 1 ≤ al.length) (h3 : al.length ≤ 3) (hV : lk = 1 → ∀ c ∈ al, lk_V c) (h : post (nI (if lk = 0 then 0 else tw_loss al)) i) : SpI G (d + 1) mX10_greatestLoss [.ref y] post i r := by
  obtain ⟨eA, ZA⟩ := hm.2 32 24 1 3 rfl (by decide)
  have zlk : nI lk = 0 ↔ lk = 0 := nI_eq (b := 0) (by omega) (by decide)
  have loop : ∀ (u : List Nat) q n, al.drop q = u → q ≤ al.length → n ≤ 3 → (lk = 0 → n = 0) → (lk = 1 → u.foldl (fun n c => if c < 4 then max n c else n) n = tw_loss al) → Ok G (d + 1) mX10_greatestLoss (fun v j q => q = r ∧ ∃ x, v = some (.int x) ∧ post x j) 4 [some (.ref y), some (.int (nI n)), some (.int (nI q))] [] i r := by
    intro u
    induction u with
    | nil =>
      intro q n hu hq hn h0 hf
      have hql := drop_end hu hq
      refine sX10_greatestLoss_4 y _ _ ⟨hm.1, fun _ => ?_, fun w => absurd (by rw [hL.2.2.2.1]; exact nI_le (by omega) (by omega)) w⟩
      have : n = if lk = 0 then 0 else tw_loss al := by
        rcases (show lk = 0 ∨ lk = 1 by omega) with e | e
        · rw [if_pos e]
          exact h0 e
        · rw [if_neg (by omega)]
          exact hf e
      rw [this]
      exact o_ri h
    | cons c u ih =>
      intro q n hu hq hn h0 hf
      obtain ⟨g1, g2, g3⟩ := drop_some hu
      refine sX10_greatestLoss_4 y _ _ ⟨hm.1, fun w => absurd w (by rw [hL.2.2.2.1]; exact nI_ge g1 (by omega)), fun _ => ?_⟩
      rw [hL.1]
      rcases (show lk = 0 ∨ lk = 1 by omega) with e | e
      · refine ⟨fun _ => ?_, fun w => absurd (zlk.mpr e) w⟩
        rw [h0 e]
        rw [if_pos e] at h
        exact o_ri h
      · obtain ⟨b1, b2, -⟩ := hL.2.2.2.2.1 q c g2
        have hcV := hV e c (List.mem_of_getElem? g2)
        have hmc := mc_lt hcV
        have efm : fm lk c = mc c := by unfold fm; rw [if_neg (by omega)]
        rw [efm] at b1 b2
        rw [eA, ZA.len, nI_clamp (n := q) (by omega), b2]
        refine ⟨fun w => absurd (zlk.mp w) (by omega), fun _ => ⟨ZA.Y, vp_in_nI (by omega) (by decide), fun x8 e8 x9 e9 => ?_⟩⟩
        have z10 : (10 : Int32) ≤ nI (mc c) ↔ 10 ≤ mc c := nI_leI (a := 10) (by decide) (by omega)
        have zn : nI (mc c) ≤ nI n ↔ mc c ≤ n := nI_leI (by omega) (by omega)
        have e8 : x8 = nI (if c < 4 then max n c else n) := by
          rw [e8]
          by_cases w : c < 4
          · have ec := mc_small w
            rw [if_neg (fun q => by have := z10.mp q; omega), if_pos w]
            by_cases w2 : c ≤ n
            · rw [if_pos (zn.mpr (by omega)), show max n c = n by omega]
            · rw [if_neg (fun q => w2 (by have := zn.mp q; omega)), show max n c = c by omega, ec]
          · rw [if_pos (z10.mpr (by have := hmc.1; omega)), if_neg w]
        rw [e8, e9, nI_1]
        exact ih (q + 1) _ g3 (by omega) (by split <;> omega) (fun z => by omega) (fun _ => hf e)
  refine sp_of 2 (by decide +kernel) (Nat.le_of_ble_eq_true rfl) rfl (sX10_greatestLoss_0 y (loop (al.drop 1) 1 0 rfl h1 (by decide) (fun _ => rfl) (fun _ => rfl)))
/-- an alternative, by the kind of site -/
def tw_ax (lk : Nat) (f : Nat → Nat) (p n c : Nat) : List Nat := if lk = 0 then [tw_b c] else tw_alt f p n c
theorem m_outAlternative {G : o_G} {d : Nat} {i : o_I} {r : o_R} {post : o_I → Prop} {y lk p k n c len : Nat} {s : jd_s} {al nm l : List Nat} {f : Nat → Nat} {w : Int32} (hm : ly_m G r y) (hk1 : lk ≤ 1) (hN : mn_S i y nm len f) (hL : md_L i y lk p s al) (h3 : al.length ≤ 3) (hg : al[k + 1]? = some c) (hpn : p + n + 1 ≤ len) (hc0 : lk = 0 → c < 4) (hV : lk = 1 → lk_V c) (hcn : lk = 1 → c < 4 → c ≤ n) (hS : wo_S i y l w) (hl : l.length + ((if k = 0 then [] else [44]) ++ tw_ax lk f p n c).length ≤ 2229) (h : ∀ j, wo_S j y (l ++ ((if k = 0 then [] else [44]) ++ tw_ax lk f p n c)) w → wo_F y i j → post j) : SpV G (d + 4) mX10_outAlternative [.ref y, .int (nI (k + 1)), .int (nI n)] post i r := by
  obtain ⟨eA, ZA⟩ := hm.2 32 24 1 3 rfl (by decide)
  obtain ⟨eB, ZB⟩ := hm.2 3 3 1 48 rfl (by decide)
  have zlk : nI lk = 0 ↔ lk = 0 := nI_eq (b := 0) (by omega) (by decide)
  have hkl := (List.getElem?_eq_some_iff.mp hg).1
  obtain ⟨b1, b2, -⟩ := hL.2.2.2.2.1 _ c hg
  have h48 := hN.2.2.1
  have hT : (l ++ ((if k = 0 then [] else [44]) ++ tw_ax lk f p n c)).length ≤ 2229 := by rw [List.length_append]; exact hl
  generalize hTe : l ++ ((if k = 0 then [] else [44]) ++ tw_ax lk f p n c) = T at hT h
  -- behind the comma
  have rest : ∀ l2 j, l2 ++ (tw_ax lk f p n c ++ []) = T → wo_S j y l2 w → wo_F y i j → Ok G (d + 4) mX10_outAlternative (fun v j q => q = r ∧ v = none ∧ post j) 18 [some (.ref y), none, some (.int (nI n)), some (.int (nI (fm lk c)))] [] j r := by
    intro l2 j el S F
    have N := mn_F hN F
    have L := md_LF hL F
    refine sX10_outAlternative_18 y _ _ ⟨hm.1, fun z => ?_, fun z => ?_⟩
    · have elk : lk = 1 := by
        rcases (show lk = 0 ∨ lk = 1 by omega) with e | e
        · exact absurd (by rw [L.1]; exact zlk.mpr e) z
        · exact e
      have efm : fm lk c = mc c := by unfold fm; rw [if_neg (by omega)]
      have hcV := hV elk
      have hmc := mc_lt hcV
      have zc : nI (mc c) < 10 ↔ mc c < 10 := nI_ltI (b := 10) (by omega) (by decide)
      have hcn := hcn elk
      rw [efm, eB, ZB.len, L.2.1, nI_clamp (n := p) (by omega)]
      obtain ⟨f1, f2⟩ := N.2.2.2 p (by omega)
      rw [f2]
      unfold tw_ax at el
      rw [if_neg (by omega)] at el
      unfold tw_alt at el
      rw [List.append_assoc] at el
      have el1 : l2 ++ ([tw_b (f p)] ++ ((if c < 4 then tw_bs f (p + c + 1) (n - c) else tw_gn c ++ tw_bs f (p + 1) n) ++ [])) = T := el
      refine ⟨ZB.Y, vp_in_nI (by omega) (by decide), m_outBase hm f1 S (tw_lt el1 hT) (fun j2 S2 F2 => ?_)⟩
      have el2 := tw_nx el1
      have z10 : (10 : Int32) ≤ nI (mc c) ↔ 10 ≤ mc c := nI_leI (a := 10) (by decide) (by omega)
      have fin : ∀ l3 j3 lo m, lo = p + 1 + (if c < 4 then c else 0) → p + n + 1 = lo + m → l3 ++ (tw_bs f lo m ++ []) = T → wo_S j3 y l3 w → wo_F y i j3 → Ok G (d + 4) mX10_outAlternative (fun v j q => q = r ∧ v = none ∧ post j) 55 [some (.ref y), none, some (.int (nI n)), some (.int (nI (mc c)))] [] j3 r := by
        intro l3 j3 lo m hlo hm2 el3 S3 F3
        have L3 := md_LF hL F3
        refine sX10_outAlternative_55 y _ _ ⟨hm.1, fun x3 e3 => ?_⟩
        have e3 : x3 = nI (if c < 4 then c else 0) := by
          rw [e3]
          by_cases w : c < 4
          · rw [if_neg (fun q => by have := z10.mp q; have := hmc.1; omega), if_pos w, mc_small w]
          · rw [if_pos (z10.mpr (by have := hmc.1; omega)), if_neg w]
            rfl
        rw [L3.2.1, e3, nI_1, nI_add, nI_add, ← hlo]
        refine m_outBases (lo := lo) (n := m) (hi := p + n) hm (mn_F hN F3) hm2 (by omega) S3 (tw_le el3 hT) (fun j4 S4 F4 => o_rv (h j4 ?_ (F3.trans F4)))
        have := tw_nx el3
        rw [List.append_nil] at this
        rw [← this]
        exact S4
      refine ⟨fun q => ?_, fun q => ?_⟩
      · have hc4 := hmc.1.mp (zc.mp q)
        rw [if_pos hc4] at el2
        exact fin _ j2 (p + c + 1) (n - c) (by rw [if_pos hc4]; omega) (by have := hcn hc4; omega) el2 S2 (F.trans F2)
      · have hc4 : ¬ c < 4 := fun u => q (zc.mpr (hmc.1.mpr u))
        rw [if_neg hc4, List.append_assoc (tw_gn c)] at el2
        refine m_outGain hm hcV (by omega) S2 (tw_le el2 hT) (fun j3 S3 F3 => ?_)
        exact fin _ j3 (p + 1) n (by rw [if_neg hc4]) (by omega) (tw_nx el2) S3 (F.trans (F2.trans F3))
    · have elk : lk = 0 := zlk.mp (by rw [← L.1]; exact z)
      have efm : fm lk c = c := by unfold fm; rw [if_pos elk]
      unfold tw_ax at el
      rw [if_pos elk] at el
      rw [efm]
      refine m_outBase hm (hc0 elk) S (tw_lt el hT) (fun j2 S2 F2 => o_rv (h j2 ?_ (F.trans F2)))
      have := tw_nx el
      rw [List.append_nil] at this
      rw [← this]
      exact S2
  refine sp_of 1 (by decide +kernel) (Nat.le_of_ble_eq_true rfl) rfl (sX10_outAlternative_0 y _ _ ?_)
  rw [eA, ZA.len, nI_clamp (n := k + 1) (by omega), b2]
  refine ⟨hm.1, ZA.Y, vp_in_nI (by omega) (by decide), fun x4 e4 => ?_⟩
  rw [e4]
  have z1 : nI (k + 1) ≤ 1 ↔ k + 1 ≤ 1 := nI_leI (b := 1) (by omega) (by decide)
  refine ⟨fun q => ?_, fun q => ?_⟩
  · have : k = 0 := by have := z1.mp q; omega
    rw [if_pos this] at hTe
    exact rest l i (by rw [List.append_nil]; exact hTe) hS (fun _ _ _ => rfl)
  · have : ¬ k = 0 := fun u => q (z1.mpr (by omega))
    rw [if_neg this] at hTe
    exact m_out (c := 44) hm hS (tw_lt hTe hT) (fun j2 S2 F2 => rest _ j2 (by rw [List.append_nil]; exact tw_nx hTe) S2 F2)

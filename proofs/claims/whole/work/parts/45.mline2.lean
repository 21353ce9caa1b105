/-! THE REFERENCE: outLine, outHead -/
def tw_rc (F : Nat → List Nat) (k : Nat) (u : List Nat) : List Nat := if k = 0 then [58] ++ tw_jn F u else tw_js F u
theorem tw_rc_cons (F : Nat → List Nat) (k c : Nat) (u : List Nat) : tw_rc F k (c :: u) = [if k = 0 then 58 else 44] ++ (F c ++ tw_rc F (k + 1) u) := by
  unfold tw_rc
  by_cases h : k = 0
  · rw [if_pos h, if_pos h, if_neg (by omega)]
    rfl
  · rw [if_neg h, if_neg h, if_neg (by omega)]
    rfl
theorem tw_dg_1 {n : Nat} (h : n < 10) : tw_dg n = [48 + n] := by
  unfold tw_dg tw_e
  rw [if_pos h]
  show [48 + n % 10] = [48 + n]
  rw [Nat.mod_eq_of_lt h]
/-- a line, by the kind of site -/
def tw_line (lk : Nat) (nm : List Nat) (p : Nat) (f : Nat → Nat) (s : jd_s) (al : List Nat) : List Nat := tw_pos nm p ++ (tw_bs f p ((if lk = 0 then 0 else tw_loss al) + 1) ++ ([9] ++ (tw_jn (tw_ax lk f p (if lk = 0 then 0 else tw_loss al)) (al.drop 1) ++ tw_jud s al)))
theorem tw_line_1 (nm : List Nat) (p : Nat) (f : Nat → Nat) (s : jd_s) (al : List Nat) : tw_line 1 nm p f s al = tw_link nm p f s al := rfl
theorem tw_line_0 (nm : List Nat) (p : Nat) (f : Nat → Nat) (s : jd_s) (al : List Nat) (h : al.getD 0 0 = f p) : tw_line 0 nm p f s al = tw_base nm p s al := by
  unfold tw_base
  rw [h]
  rfl
theorem m_outLine {G : o_G} {d : Nat} {i : o_I} {r : o_R} {post : o_I → Prop} {y lk p len : Nat} {s : jd_s} {al nm l : List Nat} {f : Nat → Nat} {w : Int32} (hm : ly_m G r y) (hk1 : lk ≤ 1) (hN : mn_S i y nm len f) (hL : md_L i y lk p s al) (hs : jd_ok s) (h1 : 1 ≤ al.length) (h3 : al.length ≤ 3) (hpn : p + (if lk = 0 then 0 else tw_loss al) + 1 ≤ len) (hc0 : lk = 0 → ∀ c ∈ al, c < 4) (hV : lk = 1 → ∀ c ∈ al, lk_V c) (hcn : lk = 1 → ∀ c ∈ al.drop 1, c < 4 → c ≤ tw_loss al) (hS : wo_S i y l w) (hl : l.length + (tw_line lk nm p f s al).length ≤ 2220) (h : ∀ j, wo_S j y (l ++ tw_line lk nm p f s al) w → wo_F y i j → post j) : SpV G (d + 5) mX10_outLine [.ref y] post i r := by
  obtain ⟨eA, ZA⟩ := hm.2 32 24 1 3 rfl (by decide)
  obtain ⟨eO, ZO⟩ := hm.2 33 25 1 104 rfl (by decide)
  obtain ⟨eP, ZP⟩ := hm.2 34 26 1 6 rfl (by decide)
  obtain ⟨eN, ZN⟩ := hm.2 5 4 2 8 rfl (by decide)
  have hT : (l ++ tw_line lk nm p f s al).length ≤ 2220 := by rw [List.length_append]; exact hl
  generalize hTe : l ++ tw_line lk nm p f s al = T at hT h
  have hT9 : T.length ≤ 2229 := by omega
  have h48 := hN.2.2.1
  have h8 := hN.1.2.1
  have np6 := jd_np6 h1 h3
  have hco : jd_co s al < jd_np al.length := jd_ch_lt _ np6.1
  have pkb : ∀ k, jd_pk s al k ≤ 784 := fun k => jd_pk_le (fun o ho => (hs.2 o ho).2) hs.1
  have xsb : ∀ k, jd_xs s al k ≤ 784 := fun k => by have := pkb k; unfold jd_xs; omega
  have hxs : ∀ k, k < jd_np al.length → nI (jd_pk s al k) - nI (jd_pk s al (jd_co s al)) = nI (jd_xs s al k) := fun k hk => pk_sub (jd_ch_least _ _ k hk)
  have cap : ∀ k m : Nat, m < 1000 → (if nI (jd_xs s al k) ≤ nI m then nI (jd_xs s al k) else nI m) = nI (min m (jd_xs s al k)) := fun k m hm' => by
    have := xsb k
    have z : nI (jd_xs s al k) ≤ nI m ↔ jd_xs s al k ≤ m := nI_leI (by omega) (by omega)
    by_cases q : jd_xs s al k ≤ m
    · rw [if_pos (z.mpr q), show min m (jd_xs s al k) = jd_xs s al k by omega]
    · rw [if_neg (fun u => q (z.mp u)), show min m (jd_xs s al k) = m by omega]
  have sep : ∀ k : Nat, k < 100 → (if nI k = 0 then (58 : Int32) else 44) = nI (if k = 0 then 58 else 44) := fun k hk => by
    have z : nI k = 0 ↔ k = 0 := nI_eq (b := 0) (by omega) (by decide)
    by_cases q : k = 0
    · rw [if_pos (z.mpr q), if_pos q]
      rfl
    · rw [if_neg (fun u => q (z.mp u)), if_neg q]
      rfl
  generalize hlo : (if lk = 0 then 0 else tw_loss al) = n at hpn
  -- the pairs
  have loop2 : ∀ (u : List Nat) k l2 j, (List.range (jd_np al.length)).drop k = u → k ≤ jd_np al.length → 0 < jd_np al.length → l2 ++ (tw_rc (fun k => tw_dg (min 255 (jd_xs s al k))) k u ++ ([10] ++ [])) = T → wo_S j y l2 w → wo_F y i j → Ok G (d + 5) mX10_outLine (fun v j q => q = r ∧ v = none ∧ post j) 283 [some (.ref y), none, some (.int (nI (jd_pk s al (jd_co s al)))), some (.int (nI k))] [] j r := by
    intro u
    induction u with
    | nil =>
      intro k l2 j hu hk h0 el S F
      have L := md_LF hL F
      have hke : k = jd_np al.length := by
        have := drop_end hu (by rw [List.length_range]; exact hk)
        rw [List.length_range] at this
        exact this
      rw [show tw_rc (fun k => tw_dg (min 255 (jd_xs s al k))) k [] = [] by unfold tw_rc; rw [if_neg (by omega)]; rfl] at el
      have el1 : l2 ++ ([10] ++ []) = T := el
      refine sX10_outLine_283 y _ _ ⟨hm.1, fun _ => m_out (c := 10) hm S (tw_lt el1 hT9) (fun j2 S2 F2 => o_rv (h j2 ?_ (F.trans F2))), fun q => absurd (by rw [L.2.2.2.2.2.1]; exact nI_le (by omega) (by omega)) q⟩
      rw [← el1]
      exact S2
    | cons c u ih =>
      intro k l2 j hu hk h0 el S F
      have L := md_LF hL F
      obtain ⟨g1, g2, g3⟩ := drop_some hu
      rw [List.length_range] at g1
      have hck : c = k := by
        rw [List.getElem?_range g1] at g2
        exact (by simpa using g2 : k = c).symm
      subst hck
      rw [tw_rc_cons, List.append_assoc, List.append_assoc] at el
      refine sX10_outLine_283 y _ _ ⟨hm.1, fun q => absurd q (by rw [L.2.2.2.2.2.1]; exact nI_ge g1 (by omega)), fun _ x5 e5 => ?_⟩
      rw [e5, sep c (by omega)]
      refine m_out hm S (tw_lt el hT9) (fun j2 S2 F2 => ?_)
      have L2 := md_LF L F2
      rw [eP, ZP.len, nI_clamp (n := c) (by omega), L2.2.2.2.2.2.2.1 c g1, hxs c g1]
      refine ⟨ZP.Y, vp_in_nI (by omega) (by decide), fun x10 e10 => ?_⟩
      rw [e10, show (255 : Int32) = nI 255 from rfl, cap c 255 (by decide)]
      have el2 := tw_nx el
      refine m_outNumber hm S2 (tw_le el2 hT9) (by omega) (fun j3 S3 F3 x12 e12 => ?_)
      rw [e12, nI_1]
      exact ih (c + 1) _ j3 g3 (by omega) h0 (tw_nx el2) S3 (F.trans (F2.trans F3))
  -- the alleles
  have loop1 : ∀ (u : List Nat) k l2 j, al.drop k = u → k ≤ al.length → l2 ++ (tw_rc (fun c => tw_dg (jd_n s c)) k u ++ ([58] ++ tw_j2 s al)) = T → wo_S j y l2 w → wo_F y i j → Ok G (d + 5) mX10_outLine (fun v j q => q = r ∧ v = none ∧ post j) 237 [some (.ref y), none, some (.int (nI (jd_pk s al (jd_co s al)))), some (.int (nI k))] [] j r := by
    intro u
    induction u with
    | nil =>
      intro k l2 j hu hk el S F
      have L := md_LF hL F
      have hke := drop_end hu hk
      rw [show tw_rc (fun c => tw_dg (jd_n s c)) k [] = [] by unfold tw_rc; rw [if_neg (by omega)]; rfl] at el
      refine sX10_outLine_237 y _ _ ⟨hm.1, fun _ => loop2 _ 0 l2 j rfl (Nat.zero_le _) (by omega) ?_ S F, fun q => absurd (by rw [L.2.2.2.1]; exact nI_le (by omega) (by omega)) q⟩
      rw [List.drop_zero]
      unfold tw_rc
      rw [if_pos rfl, List.append_assoc, List.append_nil]
      exact el
    | cons c u ih =>
      intro k l2 j hu hk el S F
      have L := md_LF hL F
      obtain ⟨g1, g2, g3⟩ := drop_some hu
      rw [tw_rc_cons, List.append_assoc, List.append_assoc] at el
      refine sX10_outLine_237 y _ _ ⟨hm.1, fun q => absurd q (by rw [L.2.2.2.1]; exact nI_ge g1 (by omega)), fun _ x4 e4 => ?_⟩
      rw [e4, sep k (by omega)]
      refine m_out hm S (tw_lt el hT9) (fun j2 S2 F2 => ?_)
      have L2 := md_LF L F2
      obtain ⟨b1, b2, b3⟩ := L2.2.2.2.2.1 k c g2
      rw [eA, ZA.len, eO, ZO.len, nI_clamp (n := k) (by omega), b2, nI_clamp (n := fm lk c) (by omega), b3]
      have el2 := tw_nx el
      refine ⟨ZA.Y, vp_in_nI (by omega) (by decide), ZO.Y, vp_in_nI (by omega) (by decide), m_outNumber hm S2 (tw_le el2 hT9) (by have := jd_n_le s c; have := hs.1; omega) (fun j3 S3 F3 x11 e11 => ?_)⟩
      rw [e11, nI_1]
      exact ih (k + 1) _ j3 g3 (by omega) (tw_nx el2) S3 (F.trans (F2.trans F3))
  -- the alternatives
  have loopA : ∀ (u : List Nat) k l2 j, al.drop (k + 1) = u → k + 1 ≤ al.length → (∀ c ∈ u, lk = 1 → c < 4 → c ≤ n) → l2 ++ (tw_rj (tw_ax lk f p n) k u ++ tw_jud s al) = T → wo_S j y l2 w → wo_F y i j → Ok G (d + 5) mX10_outLine (fun v j q => q = r ∧ v = none ∧ post j) 92 [some (.ref y), some (.int (nI n)), some (.int (nI (jd_pk s al (jd_co s al)))), some (.int (nI (k + 1)))] [] j r := by
    intro u
    induction u with
    | nil =>
      intro k l2 j hu hk hcu el S F
      have hke := drop_end hu hk
      rw [tw_rj_nil] at el
      have e0 : l2 ++ ([9] ++ (tw_dg (min 999 (jd_xs s al 0)) ++ (tw_t5 ++ (tw_dg (jd_fi (jd_co s al)) ++ ([47] ++ (tw_dg (jd_se (jd_co s al)) ++ ([58] ++ (tw_dg s.length ++ ([58] ++ tw_j1 s al))))))))) = T := el
      refine sX10_outLine_92 y _ _ _ ⟨hm.1, fun _ => m_out (c := 9) hm S (tw_lt e0 hT9) (fun j1 S1 F1 => ?_), fun q => absurd (by rw [(md_LF hL F).2.2.2.1]; exact nI_le (by omega) (by omega)) q⟩
      have e1 := tw_nx e0
      have L1 := md_LF hL (F.trans F1)
      rw [eP, ZP.len, show (0 : Int32).toNatClampNeg = 0 from rfl, L1.2.2.2.2.2.2.1 0 (by omega), hxs 0 (by omega)]
      refine ⟨ZP.Y, vp_in_nI (n := 0) (by decide) (by decide), fun x7 e7 => ?_⟩
      rw [e7, show (999 : Int32) = nI 999 from rfl, cap 0 999 (by decide)]
      refine m_outNumber hm S1 (tw_le e1 hT9) (by omega) (fun j2 S2 F2 => ?_)
      have e2 := tw_nx e1
      have hlen2 : (l2 ++ [9] ++ tw_dg (min 999 (jd_xs s al 0))).length + 17 ≤ 2220 := by
        have := congrArg List.length e2
        rw [List.length_append, List.length_append (as := tw_t5), show tw_t5.length = 17 from rfl] at this
        omega
      refine m_outSix (a := 9) (b := 46) (c := 9) (e := 46) (f := 9) (g := 0) hm (by decide) (by decide) (by decide) (by decide) (by decide) S2 (by omega) (fun j3 S3 F3 => ?_)
      refine m_outSix (a := 71) (b := 84) (c := 58) (e := 68) (f := 80) (g := 58) hm (by decide) (by decide) (by decide) (by decide) (by decide) S3 (by rw [List.length_append]; show _ + 5 + 6 ≤ 2229; omega) (fun j4 S4 F4 => ?_)
      refine m_outSix (a := 65) (b := 68) (c := 58) (e := 80) (f := 76) (g := 9) hm (by decide) (by decide) (by decide) (by decide) (by decide) S4 (by rw [List.length_append, List.length_append]; show _ + 5 + 6 + 6 ≤ 2229; omega) (fun j5 S5 F5 => ?_)
      have S5 : wo_S j5 y ((l2 ++ [9] ++ tw_dg (min 999 (jd_xs s al 0))) ++ tw_t5) w := by
        rw [List.append_assoc, List.append_assoc] at S5
        exact S5
      have e3 := tw_nx e2
      have F5' : wo_F y i j5 := F.trans (F1.trans (F2.trans (F3.trans (F4.trans F5))))
      have L5 := md_LF hL F5'
      obtain ⟨fa, fb⟩ := jd_fi_lt h1 h3 hco
      rw [L5.2.2.2.2.2.2.2]
      refine m_firstOf (by omega) ?_
      rw [L5.2.2.2.2.2.2.2]
      refine m_secondOf (by omega) ?_
      rw [show (48 : Int32) + nI (jd_fi (jd_co s al)) = nI (48 + jd_fi (jd_co s al)) from nI_add 48 _, show (48 : Int32) + nI (jd_se (jd_co s al)) = nI (48 + jd_se (jd_co s al)) from nI_add 48 _]
      rw [tw_dg_1 (n := jd_fi (jd_co s al)) (by omega), tw_dg_1 (n := jd_se (jd_co s al)) (by omega)] at e3
      have hlen5 : (l2 ++ [9] ++ tw_dg (min 999 (jd_xs s al 0)) ++ tw_t5).length + 4 ≤ 2220 := by
        have := congrArg List.length e3
        rw [List.length_append] at this
        simp only [List.length_append (as := [48 + jd_fi (jd_co s al)]), List.length_append (as := [47]), List.length_append (as := [48 + jd_se (jd_co s al)]), List.length_append (as := [58]), List.length_singleton] at this
        omega
      refine m_outSix (a := 48 + jd_fi (jd_co s al)) (b := 47) (c := 48 + jd_se (jd_co s al)) (e := 58) (f := 0) (g := 0) hm (by decide) (by omega) (by decide) (by decide) (by decide) S5 (by omega) (fun j6 S6 F6 => ?_)
      have zse : tw_z (48 + jd_se (jd_co s al)) = [48 + jd_se (jd_co s al)] := by unfold tw_z; rw [if_neg (by omega)]
      rw [zse] at S6
      have S6 : wo_S j6 y (l2 ++ [9] ++ tw_dg (min 999 (jd_xs s al 0)) ++ tw_t5 ++ ([48 + jd_fi (jd_co s al)] ++ ([47] ++ ([48 + jd_se (jd_co s al)] ++ [58])))) w := S6
      have e4 : (l2 ++ [9] ++ tw_dg (min 999 (jd_xs s al 0)) ++ tw_t5 ++ ([48 + jd_fi (jd_co s al)] ++ ([47] ++ ([48 + jd_se (jd_co s al)] ++ [58])))) ++ (tw_dg s.length ++ ([58] ++ tw_j1 s al)) = T := by
        rw [← e3]
        simp only [List.append_assoc]
      have L6 := md_LF L5 F6
      rw [L6.2.2.1]
      refine m_outNumber (n := s.length) hm S6 (tw_le e4 hT9) (by have := hs.1; omega) (fun j7 S7 F7 => ?_)
      refine loop1 al 0 _ j7 rfl (Nat.zero_le _) ?_ S7 (F5'.trans (F6.trans F7))
      have hrc : tw_rc (fun c => tw_dg (jd_n s c)) 0 al ++ ([58] ++ tw_j2 s al) = [58] ++ tw_j1 s al := rfl
      rw [hrc]
      exact tw_nx e4
    | cons c u ih =>
      intro k l2 j hu hk hcu el S F
      have L := md_LF hL F
      obtain ⟨g1, g2, g3⟩ := drop_some hu
      have hmem := List.mem_of_getElem? g2
      rw [tw_rj_cons] at el
      have el1 : l2 ++ (((if k = 0 then [] else [44]) ++ tw_ax lk f p n c) ++ (tw_rj (tw_ax lk f p n) (k + 1) u ++ tw_jud s al)) = T := by rw [← el]; simp only [List.append_assoc]
      refine sX10_outLine_92 y _ _ _ ⟨hm.1, fun q => absurd q (by rw [L.2.2.2.1]; exact nI_ge g1 (by omega)), fun _ => ?_⟩
      refine m_outAlternative (k := k) hm hk1 (mn_F hN F) L h3 g2 hpn (fun e => hc0 e c hmem) (fun e => hV e c hmem) (hcu c List.mem_cons_self) S (tw_le el1 hT9) (fun j2 S2 F2 x18 e18 => ?_)
      rw [e18, nI_1]
      exact ih (k + 1) _ j2 g3 (by omega) (fun c' hc' => hcu c' (List.mem_cons_of_mem _ hc')) (tw_nx el1) S2 (F.trans F2)
  -- the name
  unfold tw_line tw_pos at hTe
  rw [hlo] at hTe
  have loopN : ∀ (u : List Nat) q l2 j, nm.drop q = u → q ≤ nm.length → l2 ++ (u ++ ([9] ++ (tw_dg (p + 1) ++ (tw_t4 ++ (tw_bs f p (n + 1) ++ ([9] ++ (tw_jn (tw_ax lk f p n) (al.drop 1) ++ tw_jud s al))))))) = T → wo_S j y l2 w → wo_F y i j → Ok G (d + 5) mX10_outLine (fun v j q => q = r ∧ v = none ∧ post j) 17 [some (.ref y), some (.int (nI n)), some (.int (nI (jd_pk s al (jd_co s al)))), some (.int (nI q))] [] j r := by
    intro u
    induction u with
    | nil =>
      intro q l2 j hu hq el S F
      have hql := drop_end hu hq
      have N := mn_F hN F
      have e0 : l2 ++ ([9] ++ (tw_dg (p + 1) ++ (tw_t4 ++ (tw_bs f p (n + 1) ++ ([9] ++ (tw_jn (tw_ax lk f p n) (al.drop 1) ++ tw_jud s al)))))) = T := el
      refine sX10_outLine_17 y _ _ _ ⟨hm.1, fun _ => m_out (c := 9) hm S (tw_lt e0 hT9) (fun j1 S1 F1 => ?_), fun u => absurd (by rw [N.1.1]; exact nI_le (by omega) (by omega)) u⟩
      have e1 := tw_nx e0
      rw [(md_LF hL (F.trans F1)).2.1, nI_1]
      refine m_outNumber hm S1 (tw_le e1 hT9) (by omega) (fun j2 S2 F2 => ?_)
      have e2 := tw_nx e1
      have hlen2 : (l2 ++ [9] ++ tw_dg (p + 1)).length ≤ 2220 := by
        have := congrArg List.length e2
        rw [List.length_append] at this
        omega
      refine m_outSix (a := 9) (b := 46) (c := 9) (e := 0) (f := 0) (g := 0) hm (by decide) (by decide) (by decide) (by decide) (by decide) S2 (by omega) (fun j3 S3 F3 => ?_)
      have S3 : wo_S j3 y ((l2 ++ [9] ++ tw_dg (p + 1)) ++ tw_t4) w := S3
      have e3 := tw_nx e2
      have F3' : wo_F y i j3 := F.trans (F1.trans (F2.trans F3))
      rw [(md_LF hL F3').2.1, nI_add]
      refine m_outBases (lo := p) (n := n + 1) (hi := p + n) hm (mn_F hN F3') (by omega) (by omega) S3 (tw_le e3 hT9) (fun j4 S4 F4 => ?_)
      have e4 := tw_nx e3
      refine m_out (c := 9) hm S4 (tw_lt e4 hT9) (fun j5 S5 F5 => ?_)
      refine loopA (al.drop 1) 0 _ j5 rfl (by omega) (fun c hc e h4 => by rw [← hlo, if_neg (by omega)]; exact hcn e c hc h4) (tw_nx e4) S5 (F3'.trans (F4.trans F5))
    | cons c u ih =>
      intro q l2 j hu hq el S F
      obtain ⟨g1, g2, g3⟩ := drop_some hu
      have N := mn_F hN F
      obtain ⟨b1, b2⟩ := N.1.2.2 q c g2
      refine sX10_outLine_17 y _ _ _ ⟨hm.1, fun z => absurd z (by rw [N.1.1]; exact nI_ge g1 (by omega)), fun _ => ?_⟩
      rw [eN, ZN.len, nI_clamp (n := q) (by omega), b2]
      have el1 : l2 ++ ([c] ++ (u ++ ([9] ++ (tw_dg (p + 1) ++ (tw_t4 ++ (tw_bs f p (n + 1) ++ ([9] ++ (tw_jn (tw_ax lk f p n) (al.drop 1) ++ tw_jud s al)))))))) = T := el
      refine ⟨ZN.Y, vp_in_nI (by omega) (by decide), m_out hm S (tw_lt el1 hT9) (fun j2 S2 F2 x11 e11 => ?_)⟩
      rw [e11, nI_1]
      exact ih (q + 1) _ j2 g3 (by omega) (tw_nx el1) S2 (F.trans F2)
  refine sp_of 3 (by decide +kernel) (Nat.le_of_ble_eq_true rfl) rfl (sX10_outLine_0 y ⟨hm.1, m_greatestLoss hm hk1 hL h1 h3 hV ?_⟩)
  rw [eP, ZP.len, hL.2.2.2.2.2.2.2, nI_clamp (n := jd_co s al) (by omega), hL.2.2.2.2.2.2.1 _ hco, hlo]
  refine ⟨ZP.Y, vp_in_nI (by omega) (by decide), fun x5 e5 => ?_⟩
  rw [e5]
  refine loopN nm 0 l i rfl (Nat.zero_le _) ?_ hS (fun _ _ _ => rfl)
  rw [← hTe]
  simp only [List.append_assoc, List.drop_zero]

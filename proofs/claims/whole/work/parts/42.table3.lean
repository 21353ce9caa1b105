/-! Table.writeJudgement, writeBaseSite, writeLinkSite -/
theorem jg_keep {i j : o_I} {tb jd : Nat} {s : jd_s} {al : List Nat} (h : jg_S i jd s al) (hd : jd + 4 ≤ tb) (hF : tw_F tb i j) : jg_S j jd s al := ⟨⟨by rw [hF _ _ (by omega) (by omega)]; exact h.1.1, fun k c hk => by rw [hF _ _ (by omega) (by omega), hF _ _ (by omega) (by omega)]; exact h.1.2 k c hk⟩, by rw [hF _ _ (by omega) (by omega)]; exact h.2.1, by rw [hF _ _ (by omega) (by omega)]; exact h.2.2.1, fun k hk => by rw [hF _ _ (by omega) (by omega)]; exact h.2.2.2.1 k hk, by rw [hF _ _ (by omega) (by omega)]; exact h.2.2.2.2⟩
def jd_co (s : jd_s) (al : List Nat) : Nat := jd_ch (jd_pk s al) (jd_np al.length)
def jd_xs (s : jd_s) (al : List Nat) (k : Nat) : Nat := jd_pk s al k - jd_pk s al (jd_co s al)
def tw_j2 (s : jd_s) (al : List Nat) : List Nat := tw_jn (fun k => tw_dg (min 255 (jd_xs s al k))) (List.range (jd_np al.length)) ++ [10]
def tw_j1 (s : jd_s) (al : List Nat) : List Nat := tw_jn (fun c => tw_dg (jd_n s c)) al ++ ([58] ++ tw_j2 s al)
def tw_jud (s : jd_s) (al : List Nat) : List Nat := [9] ++ (tw_dg (min 999 (jd_xs s al 0)) ++ (tw_t5 ++ (tw_dg (jd_fi (jd_co s al)) ++ ([47] ++ (tw_dg (jd_se (jd_co s al)) ++ ([58] ++ (tw_dg s.length ++ ([58] ++ tw_j1 s al))))))))
/-- what is left of a list with commas -/
def tw_rj (F : Nat → List Nat) (a : Nat) (u : List Nat) : List Nat := if a = 0 then tw_jn F u else tw_js F u
theorem tw_rj_nil (F : Nat → List Nat) (a : Nat) : tw_rj F a [] = [] := by unfold tw_rj; split <;> rfl
theorem tw_rj_cons (F : Nat → List Nat) (a c : Nat) (u : List Nat) : tw_rj F a (c :: u) = (if a = 0 then [] else [44]) ++ (F c ++ tw_rj F (a + 1) u) := by
  unfold tw_rj
  by_cases h : a = 0
  · rw [if_pos h, if_pos h, if_neg (by omega)]
    rfl
  · rw [if_neg h, if_neg h, if_neg (by omega)]
    rfl
theorem tw_lt {l rest T : List Nat} {c : Nat} (e : l ++ ([c] ++ rest) = T) (h : T.length ≤ 2229) : l.length < 2229 := tw_le e h
/-- a comma where one is wanted -/
theorem c_commaAt {G : o_G} {d : Nat} {i : o_I} {r : o_R} {post : o_I → Prop} {tb a : Nat} {x : Int32} {l : List Nat} (ht : ly_tb G r tb) (hS : tw_S i tb l) (hl : l.length + (if a = 0 then ([] : List Nat) else [44]).length ≤ 2229) (hx0 : a = 0 → x = 0) (hx1 : ¬ a = 0 → x = 1) (h : ∀ j, tw_S j tb (l ++ (if a = 0 then [] else [44])) → tw_F tb i j → post j) : SpV G (d + 2) mX8_writeComma [.ref tb, .int x] post i r := by
  by_cases ha : a = 0
  · rw [if_pos ha] at hl h
    have e := hx0 ha
    subst e
    refine sp_of 0 (by decide +kernel) (Nat.le_of_ble_eq_true rfl) rfl (sX8_writeComma_0 tb _ ⟨fun _ => o_rv (h i (by rw [List.append_nil]; exact hS) (fun _ _ _ _ => rfl)), fun z => absurd rfl z⟩)
  · rw [if_neg ha] at hl h
    have e := hx1 ha
    subst e
    simp at hl
    exact c_comma ht hS (by omega) (fun z => absurd z (by decide)) (fun _ j a b => h j a b)
theorem getD_some {al : List Nat} {k : Nat} (h : k < al.length) : al[k]? = some (al.getD k 0) := by rw [List.getD_eq_getElem?_getD, List.getElem?_eq_getElem h]; rfl
theorem drop_some {al : List Nat} {k c : Nat} {u : List Nat} (h : al.drop k = c :: u) : k < al.length ∧ al[k]? = some c ∧ al.drop (k + 1) = u := by
  obtain ⟨g1, g2, g3⟩ := drop_cons h
  exact ⟨g1, by rw [getD_some g1, g2], g3⟩
theorem drop_end {al : List Nat} {k : Nat} (h : al.drop k = []) (hk : k ≤ al.length) : k = al.length := by
  have := List.drop_eq_nil_iff.mp h
  omega
theorem nI_min2 {x m : Nat} (hx : x < 2 ^ 31) (hm : m < 2 ^ 31) : (if nI x < nI m then nI x else nI m) = nI (min m x) := nI_min (x := m) (y := x) hm hx
theorem c_writeJudgement {G : o_G} {d : Nat} {i : o_I} {r : o_R} {post : o_I → Prop} {tb jd : Nat} {s : jd_s} {al l : List Nat} (hc : o_cst G) (ht : ly_tb G r tb) (hj : ly_jd G r jd) (hd : jd + 4 ≤ tb) (hG : jg_S i jd s al) (hs : jd_ok s) (h1 : 1 ≤ al.length) (h3 : al.length ≤ 3) (hS : tw_S i tb l) (hl : l.length + (tw_jud s al).length ≤ 2229) (h : ∀ j, tw_S j tb (l ++ tw_jud s al) → tw_F tb i j → post j) : SpV G (d + 6) mX8_writeJudgement [.ref tb, .ref jd] post i r := by
  have hT : (l ++ tw_jud s al).length ≤ 2229 := by rw [List.length_append]; exact hl
  generalize hTe : l ++ tw_jud s al = T at hT h
  have np6 := jd_np6 h1 h3
  have hco : jd_co s al < jd_np al.length := jd_ch_lt _ np6.1
  have pkb : ∀ k, jd_pk s al k ≤ 784 := fun k => jd_pk_le (fun o ho => (hs.2 o ho).2) hs.1
  have hex : ∀ {dd : Nat} {jj : o_I} {Q : Int32 → o_I → Prop} (k : Nat), k < jd_np al.length → jg_S jj jd s al → Q (nI (jd_xs s al k)) jj → SpI G (dd + 1) mX2_excess [.ref jd, .int (nI k)] Q jj r := fun {dd jj Q} k hk J q => c_excess (x := jd_pk s al k) (y := jd_pk s al (jd_co s al)) hj J.2.2.2.2 (by show jd_co s al < 6; omega) (by omega) (J.2.2.2.1 k hk) (J.2.2.2.1 _ hco) (jd_ch_least _ _ k hk) q
  have xsb : ∀ k, jd_xs s al k ≤ 784 := fun k => by have := pkb k; unfold jd_xs; omega
  -- the pairs
  have loop2 : ∀ (u : List Nat) k l2 j, (List.range (jd_np al.length)).drop k = u → k ≤ jd_np al.length → l2 ++ (tw_rj (fun k => tw_dg (min 255 (jd_xs s al k))) k u ++ [10]) = T → tw_S j tb l2 → tw_F tb i j → Ok G (d + 6) mX8_writeJudgement (fun v j q => q = r ∧ v = none ∧ post j) 116 [some (.ref tb), some (.ref jd), some (.int (nI k))] [] j r := by
    intro u
    induction u with
    | nil =>
      intro k l2 j hu hk el S F
      have J := jg_keep hG hd F
      have hke : k = jd_np al.length := by
        have := drop_end hu (by rw [List.length_range]; exact hk)
        rw [List.length_range] at this
        exact this
      rw [tw_rj_nil] at el
      have el1 : l2 ++ ([10] ++ []) = T := el
      refine sX8_writeJudgement_116 tb jd _ ⟨hj.1, fun _ => ⟨ht.1, c_write (c := 10) ht S (tw_lt el1 hT) (by decide) (fun j2 S2 F2 => o_rv (h j2 ?_ (F.trans F2)))⟩, fun w => absurd (by rw [J.2.2.1]; exact nI_le (by omega) (by omega)) w⟩
      rw [← el1]
      exact S2
    | cons c u ih =>
      intro k l2 j hu hk el S F
      have J := jg_keep hG hd F
      obtain ⟨g1, g2, g3⟩ := drop_some hu
      rw [List.length_range] at g1
      have hck : c = k := by
        rw [List.getElem?_range g1] at g2
        exact (by simpa using g2 : k = c).symm
      subst hck
      rw [tw_rj_cons, List.append_assoc, List.append_assoc] at el
      have z0 : nI c ≤ 0 ↔ c ≤ 0 := nI_leI (b := 0) (by omega) (by decide)
      refine sX8_writeJudgement_116 tb jd _ ⟨hj.1, fun w => absurd w (by rw [J.2.2.1]; exact nI_ge g1 (by omega)), fun _ x6 e6 => ⟨ht.1, c_commaAt (a := c) ht S (tw_le el hT) (fun z => by rw [e6, if_pos (z0.mpr (by omega))]) (fun z => by rw [e6, if_neg (fun w => z (by have := z0.mp w; omega))]) (fun j2 S2 F2 => ?_)⟩⟩
      refine hex c g1 (jg_keep J hd F2) ?_
      rw [show (255 : Int32) = nI 255 from rfl, nI_min2 (by have := xsb c; omega) (by decide)]
      have el2 := tw_nx el
      refine c_writeNumber ht S2 (tw_le el2 hT) (by omega) (fun j3 S3 F3 x11 e11 => ?_)
      rw [e11, nI_1]
      exact ih (c + 1) _ j3 g3 (by omega) (tw_nx el2) S3 (F.trans (F2.trans F3))
  -- the alleles
  have loop1 : ∀ (u : List Nat) k l2 j, al.drop k = u → k ≤ al.length → l2 ++ (tw_rj (fun c => tw_dg (jd_n s c)) k u ++ ([58] ++ tw_j2 s al)) = T → tw_S j tb l2 → tw_F tb i j → Ok G (d + 6) mX8_writeJudgement (fun v j q => q = r ∧ v = none ∧ post j) 71 [some (.ref tb), some (.ref jd), some (.int (nI k))] [] j r := by
    intro u
    induction u with
    | nil =>
      intro k l2 j hu hk el S F
      have J := jg_keep hG hd F
      have hke := drop_end hu hk
      rw [tw_rj_nil] at el
      have el1 : l2 ++ ([58] ++ tw_j2 s al) = T := el
      refine sX8_writeJudgement_71 tb jd _ ⟨hj.1, fun _ => ⟨ht.1, c_write (c := 58) ht S (tw_lt el1 hT) (by decide) (fun j2 S2 F2 => ?_)⟩, fun w => absurd (by rw [J.1.1]; exact nI_le (by omega) (by omega)) w⟩
      exact loop2 _ 0 _ j2 rfl (Nat.zero_le _) (tw_nx el1) S2 (F.trans F2)
    | cons c u ih =>
      intro k l2 j hu hk el S F
      have J := jg_keep hG hd F
      obtain ⟨g1, g2, g3⟩ := drop_some hu
      rw [tw_rj_cons, List.append_assoc, List.append_assoc] at el
      have z0 : nI k ≤ 0 ↔ k ≤ 0 := nI_leI (b := 0) (by omega) (by decide)
      refine sX8_writeJudgement_71 tb jd _ ⟨hj.1, fun w => absurd w (by rw [J.1.1]; exact nI_ge g1 (by omega)), fun _ x6 e6 => ⟨ht.1, c_commaAt (a := k) ht S (tw_le el hT) (fun z => by rw [e6, if_pos (z0.mpr (by omega))]) (fun z => by rw [e6, if_neg (fun w => z (by have := z0.mp w; omega))]) (fun j2 S2 F2 => ?_)⟩⟩
      have J2 := jg_keep J hd F2
      rw [hj.2.2.2.1, hj.2.2.2.2.1.len, nI_clamp (n := k) (by omega), (J2.1.2 k c g2).2.2]
      have el2 := tw_nx el
      refine ⟨hj.2.2.2.2.1.Y, vp_in_nI (by omega) (by decide), c_writeNumber ht S2 (tw_le el2 hT) (by have := jd_n_le s c; have := hs.1; omega) (fun j3 S3 F3 x11 e11 => ?_)⟩
      rw [e11, nI_1]
      exact ih (k + 1) _ j3 g3 (by omega) (tw_nx el2) S3 (F.trans (F2.trans F3))
  unfold tw_jud at hTe
  refine sp_of 1 (by decide +kernel) (Nat.le_of_ble_eq_true rfl) rfl (sX8_writeJudgement_0 tb jd ⟨ht.1, c_write (c := 9) ht hS (tw_lt hTe hT) (by decide) (fun j1 S1 F1 => ⟨hj.1, hex 0 (by omega) (jg_keep hG hd F1) ?_⟩)⟩)
  have e1 := tw_nx hTe
  rw [show (999 : Int32) = nI 999 from rfl, nI_min2 (by have := xsb 0; omega) (by decide)]
  refine c_writeNumber ht S1 (tw_le e1 hT) (by omega) (fun j2 S2 F2 => ⟨hc, ?_⟩)
  have e2 := tw_nx e1
  refine c_writeText (k := 5) (t := tw_t5) hc ht (by decide) (by decide) (by decide +kernel) (by decide +kernel) (by decide +kernel) S2 (tw_le e2 hT) (fun j3 S3 F3 => ?_)
  have e3 := tw_nx e2
  have J3 := jg_keep hG hd (F1.trans (F2.trans F3))
  obtain ⟨fa, fb⟩ := jd_fi_lt h1 h3 hco
  refine c_firstChosen hc hj J3.2.2.2.2 (by show jd_co s al < 6; omega) ?_
  refine c_writeNumber (n := jd_fi (jd_co s al)) ht S3 (tw_le e3 hT) (by omega) (fun j4 S4 F4 => ?_)
  have e4 := tw_nx e3
  refine c_write (c := 47) ht S4 (tw_lt e4 hT) (by decide) (fun j5 S5 F5 => ?_)
  have e5 := tw_nx e4
  have J5 := jg_keep (jg_keep J3 hd F4) hd F5
  refine c_secondChosen hc hj J5.2.2.2.2 (by show jd_co s al < 6; omega) ?_
  refine c_writeNumber (n := jd_se (jd_co s al)) ht S5 (tw_le e5 hT) (by omega) (fun j6 S6 F6 => ?_)
  have e6 := tw_nx e5
  refine c_write (c := 58) ht S6 (tw_lt e6 hT) (by decide) (fun j7 S7 F7 => ?_)
  have e7 := tw_nx e6
  have J7 := jg_keep (jg_keep J5 hd F6) hd F7
  rw [J7.2.1]
  refine c_writeNumber (n := s.length) ht S7 (tw_le e7 hT) (by have := hs.1; omega) (fun j8 S8 F8 => ?_)
  have e8 := tw_nx e7
  refine c_write (c := 58) ht S8 (tw_lt e8 hT) (by decide) (fun j9 S9 F9 => ?_)
  have e9 := tw_nx e8
  exact loop1 al 0 _ j9 rfl (Nat.zero_le _) e9 S9 (F1.trans (F2.trans (F3.trans (F4.trans (F5.trans (F6.trans (F7.trans (F8.trans F9))))))))
def tw_base (nm : List Nat) (p : Nat) (s : jd_s) (al : List Nat) : List Nat := tw_pos nm p ++ ([tw_b (al.getD 0 0)] ++ ([9] ++ (tw_jn (fun c => [tw_b c]) (al.drop 1) ++ tw_jud s al)))
theorem c_writeBaseSite {G : o_G} {d : Nat} {i : o_I} {r : o_R} {post : o_I → Prop} {tb sm jd p len : Nat} {nm al l : List Nat} {f : Nat → Nat} {s : jd_s} (hc : o_cst G) (ht : ly_tb G r tb) (hsm : ly_sm G r sm) (hd : tb + 2 ≤ sm) (hN : sn_S i sm nm len f) (hp : p < 48) (hj : ly_jd G r jd) (hd2 : jd + 4 ≤ tb) (hG : jg_S i jd s al) (hs : jd_ok s) (h1 : 1 ≤ al.length) (h3 : al.length ≤ 3) (hal : ∀ c ∈ al, c < 4) (hS : tw_S i tb l) (hl : l.length + (tw_base nm p s al).length ≤ 2229) (h : ∀ j, tw_S j tb (l ++ tw_base nm p s al) → tw_F tb i j → post j) : SpV G (d + 7) mX8_writeBaseSite [.ref tb, .ref sm, .int (nI p), .ref jd] post i r := by
  have hT : (l ++ tw_base nm p s al).length ≤ 2229 := by rw [List.length_append]; exact hl
  generalize hTe : l ++ tw_base nm p s al = T at hT h
  have loop : ∀ (u : List Nat) k l2 j, al.drop (k + 1) = u → k + 1 ≤ al.length → l2 ++ (tw_rj (fun c => [tw_b c]) k u ++ tw_jud s al) = T → tw_S j tb l2 → tw_F tb i j → Ok G (d + 7) mX8_writeBaseSite (fun v j q => q = r ∧ v = none ∧ post j) 30 [some (.ref tb), none, none, some (.ref jd), some (.int (nI (k + 1)))] [] j r := by
    intro u
    induction u with
    | nil =>
      intro k l2 j hu hk el S F
      have J := jg_keep hG hd2 F
      have hke := drop_end hu hk
      rw [tw_rj_nil] at el
      have el1 : l2 ++ (tw_jud s al ++ []) = T := by rw [List.append_nil]; exact el
      refine sX8_writeBaseSite_30 tb jd _ ⟨hj.1, fun _ => ⟨ht.1, c_writeJudgement hc ht hj hd2 J hs h1 h3 S (tw_le el1 hT) (fun j2 S2 F2 => o_rv (h j2 ?_ (F.trans F2)))⟩, fun w => absurd (by rw [J.1.1]; exact nI_le (by omega) (by omega)) w⟩
      rw [← el]
      exact S2
    | cons c u ih =>
      intro k l2 j hu hk el S F
      have J := jg_keep hG hd2 F
      obtain ⟨g1, g2, g3⟩ := drop_some hu
      have hc4 := hal c (List.mem_of_getElem? g2)
      rw [tw_rj_cons, List.append_assoc, List.append_assoc] at el
      have z0 : nI (k + 1) ≤ 1 ↔ k + 1 ≤ 1 := nI_leI (b := 1) (by omega) (by decide)
      refine sX8_writeBaseSite_30 tb jd _ ⟨hj.1, fun w => absurd w (by rw [J.1.1]; exact nI_ge g1 (by omega)), fun _ x6 e6 => ⟨ht.1, c_commaAt (a := k) ht S (tw_le el hT) (fun z => by rw [e6, if_pos (z0.mpr (by omega))]) (fun z => by rw [e6, if_neg (fun w => z (by have := z0.mp w; omega))]) (fun j2 S2 F2 => ⟨hc, ?_⟩)⟩⟩
      have J2 := jg_keep J hd2 F2
      rw [hj.2.1, hj.2.2.1.len, nI_clamp (n := k + 1) (by omega), (J2.1.2 (k + 1) c g2).2.1]
      have el2 := tw_nx el
      refine ⟨hj.2.2.1.Y, vp_in_nI (by omega) (by decide), by decide, by decide, c_charAt hc (by decide) (by decide) (Nat.lt_of_lt_of_le hc4 (by decide)) ?_⟩
      rw [tw_letter hc4]
      refine c_write ht S2 (tw_lt el2 hT) tw_b_lt (fun j3 S3 F3 x16 e16 => ?_)
      rw [e16, nI_1]
      exact ih (k + 1) _ j3 g3 (by omega) (tw_nx el2) S3 (F.trans (F2.trans F3))
  unfold tw_base at hTe
  refine sp_of 1 (by decide +kernel) (Nat.le_of_ble_eq_true rfl) rfl (sX8_writeBaseSite_0 tb sm _ jd ⟨ht.1, c_writePosition hc ht hsm hd hN hp hS (tw_le hTe hT) (fun j1 S1 F1 => ?_)⟩)
  have J1 := jg_keep hG hd2 F1
  have g0 := getD_some (al := al) (k := 0) (by omega)
  have hc0 := hal _ (List.mem_of_getElem? g0)
  rw [hj.2.1, hj.2.2.1.len, show (0 : Int32).toNatClampNeg = 0 from rfl, (J1.1.2 0 _ g0).2.1]
  have e1 := tw_nx hTe
  refine ⟨hc, hj.1, hj.2.2.1.Y, vp_in_nI (n := 0) (by decide) (by decide), by decide, by decide, c_charAt hc (by decide) (by decide) (Nat.lt_of_lt_of_le hc0 (by decide)) ?_⟩
  rw [tw_letter hc0]
  refine c_write ht S1 (tw_lt e1 hT) tw_b_lt (fun j2 S2 F2 => ?_)
  have e2 := tw_nx e1
  refine c_write (c := 9) ht S2 (tw_lt e2 hT) (by decide) (fun j3 S3 F3 => ?_)
  exact loop (al.drop 1) 0 _ j3 rfl (by omega) (tw_nx e2) S3 (F1.trans (F2.trans F3))
def tw_link (nm : List Nat) (p : Nat) (f : Nat → Nat) (s : jd_s) (al : List Nat) : List Nat := tw_pos nm p ++ (tw_bs f p (tw_loss al + 1) ++ ([9] ++ (tw_jn (tw_alt f p (tw_loss al)) (al.drop 1) ++ tw_jud s al)))
theorem c_writeLinkSite {G : o_G} {d : Nat} {i : o_I} {r : o_R} {post : o_I → Prop} {tb sm jd p len : Nat} {nm al l : List Nat} {f : Nat → Nat} {s : jd_s} (hc : o_cst G) (ht : ly_tb G r tb) (hsm : ly_sm G r sm) (hd : tb + 2 ≤ sm) (hN : sn_S i sm nm len f) (hj : ly_jd G r jd) (hd2 : jd + 4 ≤ tb) (hG : jg_S i jd s al) (hs : jd_ok s) (h1 : 1 ≤ al.length) (h3 : al.length ≤ 3) (hpn : p + tw_loss al + 1 ≤ len) (hcn : ∀ c ∈ al.drop 1, c < 4 → c ≤ tw_loss al) (hS : tw_S i tb l) (hl : l.length + (tw_link nm p f s al).length ≤ 2229) (h : ∀ j, tw_S j tb (l ++ tw_link nm p f s al) → tw_F tb i j → post j) : SpV G (d + 7) mX8_writeLinkSite [.ref tb, .ref sm, .int (nI p), .ref jd] post i r := by
  have hT : (l ++ tw_link nm p f s al).length ≤ 2229 := by rw [List.length_append]; exact hl
  generalize hTe : l ++ tw_link nm p f s al = T at hT h
  have h48 := hN.2.2.1
  have loop : ∀ (u : List Nat) k l2 j, al.drop (k + 1) = u → k + 1 ≤ al.length → (∀ c ∈ u, c < 4 → c ≤ tw_loss al) → l2 ++ (tw_rj (tw_alt f p (tw_loss al)) k u ++ tw_jud s al) = T → tw_S j tb l2 → tw_F tb i j → Ok G (d + 7) mX8_writeLinkSite (fun v j q => q = r ∧ v = none ∧ post j) 31 [some (.ref tb), some (.ref sm), some (.int (nI p)), some (.ref jd), some (.int (nI (tw_loss al))), some (.int (nI (k + 1)))] [] j r := by
    intro u
    induction u with
    | nil =>
      intro k l2 j hu hk hcu el S F
      have J := jg_keep hG hd2 F
      have hke := drop_end hu hk
      rw [tw_rj_nil] at el
      have el1 : l2 ++ (tw_jud s al ++ []) = T := by rw [List.append_nil]; exact el
      refine sX8_writeLinkSite_31 tb sm _ jd _ _ ⟨hj.1, fun _ => ⟨ht.1, c_writeJudgement hc ht hj hd2 J hs h1 h3 S (tw_le el1 hT) (fun j2 S2 F2 => o_rv (h j2 ?_ (F.trans F2)))⟩, fun w => absurd (by rw [J.1.1]; exact nI_le (by omega) (by omega)) w⟩
      rw [← el]
      exact S2
    | cons c u ih =>
      intro k l2 j hu hk hcu el S F
      have J := jg_keep hG hd2 F
      obtain ⟨g1, g2, g3⟩ := drop_some hu
      rw [tw_rj_cons, List.append_assoc, List.append_assoc] at el
      have z0 : nI (k + 1) ≤ 1 ↔ k + 1 ≤ 1 := nI_leI (b := 1) (by omega) (by decide)
      refine sX8_writeLinkSite_31 tb sm _ jd _ _ ⟨hj.1, fun w => absurd w (by rw [J.1.1]; exact nI_ge g1 (by omega)), fun _ x6 e6 => ⟨ht.1, c_commaAt (a := k) ht S (tw_le el hT) (fun z => by rw [e6, if_pos (z0.mpr (by omega))]) (fun z => by rw [e6, if_neg (fun w => z (by have := z0.mp w; omega))]) (fun j2 S2 F2 => ?_)⟩⟩
      have J2 := jg_keep J hd2 F2
      rw [hj.2.1, hj.2.2.1.len, nI_clamp (n := k + 1) (by omega), (J2.1.2 (k + 1) c g2).2.1]
      have el2 := tw_nx el
      refine ⟨hj.2.2.1.Y, vp_in_nI (by omega) (by decide), c_writeLink hc ht hsm hd (sn_F hN hd (F.trans F2)) hpn (hcu c List.mem_cons_self) (J2.1.2 (k + 1) c g2).1 S2 (tw_le el2 hT) (fun j3 S3 F3 x12 e12 => ?_)⟩
      rw [e12, nI_1]
      exact ih (k + 1) _ j3 g3 (by omega) (fun c' hc' => hcu c' (List.mem_cons_of_mem _ hc')) (tw_nx el2) S3 (F.trans (F2.trans F3))
  unfold tw_link at hTe
  refine sp_of 2 (by decide +kernel) (Nat.le_of_ble_eq_true rfl) rfl (sX8_writeLinkSite_0 tb sm _ jd (c_greatestLoss hj hG.1 h3 h1 ⟨ht.1, c_writePosition hc ht hsm hd hN (by omega) hS (tw_le hTe hT) (fun j1 S1 F1 => ?_)⟩))
  have e1 := tw_nx hTe
  rw [nI_add]
  refine c_writeBases (lo := p) (n := tw_loss al + 1) (hi := p + tw_loss al) hc ht hsm hd (sn_F hN hd F1) (by omega) (by omega) S1 (tw_le e1 hT) (fun j2 S2 F2 => ?_)
  have e2 := tw_nx e1
  refine c_write (c := 9) ht S2 (tw_lt e2 hT) (by decide) (fun j3 S3 F3 => ?_)
  exact loop (al.drop 1) 0 _ j3 rfl (by omega) hcn (tw_nx e2) S3 (F1.trans (F2.trans F3))

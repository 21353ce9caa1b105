/-! CALL: the reads one after the other, in the reference -/
def cm_F (y : Nat) (i j : o_I) : Prop := ∀ a z, ¬ (a = y ∧ (z = 20 ∨ z = 24)) → (a < y + 8 ∨ y + 23 < a) → j a z = i a z
theorem pm_same {i j : o_I} {y q : Nat} {Q : pl_Q} (h : pc_M i y q Q) (e : ∀ a, y + 8 ≤ a → a ≤ y + 12 → j a q = i a q) : pc_M j y q Q := ⟨by rw [e _ (by omega) (by omega)]; exact h.1, fun l s e1 b fe ls eQ => by rw [e _ (by omega) (by omega), e _ (by omega) (by omega), e _ (by omega) (by omega), e _ (by omega) (by omega)]; exact h.2 l s e1 b fe ls eQ⟩
theorem mt_same {i j : o_I} {y q : Nat} {T : List Nat} (h : ms_T i y q T) (hT : T.length ≤ 40) (e : j (y + 13) q = i (y + 13) q) (e3 : ∀ z, 40 * q ≤ z → z < 40 * q + 40 → j (y + 14) z = i (y + 14) z) : ms_T j y q T := ⟨by rw [e]; exact h.1, fun k hk => by rw [e3 _ (by omega) (by omega)]; exact h.2 k hk⟩
theorem m_callL {G : o_G} {d : Nat} {i : o_I} {r : o_R} {P : o_P} {y k R len : Nat} {g : Nat → Int32} {N : Nat → Nat} {F FQ : Nat → Nat → Int32} (hm : ly_m G r y) (hk : k ≤ 3) (h48 : len ≤ 48) (hR : R ≤ 8) (hok : cl_ok R N F FQ) (h6 : i y 6 = nI R) (h2 : i y 2 = nI len) (hg : ∀ p, p < len → i (y + 3) p = g p) (hrd : ∀ q, q < R → i (y + 5) q = nI (N q) ∧ ∀ z, z < N q → i (y + 6) (16 * q + z) = F q z ∧ i (y + 7) (16 * q + z) = FQ q z)
    (fin : ∀ j, mb_S j y (cl_B k len g N F FQ R) → mk_S j y (cl_K k len g N F FQ R) → (∀ q, q < R → pc_M j y q (cl_P k len g N F q) ∧ ms_T j y q (cl_T k len g N F q)) → cm_F y i j → Ok G (d + 3) mX10_call P 106 [some (.ref y), none, none, some (.int 0), some (.int 0)] [] j r) :
    ∀ m q j, q + m = R → mb_S j y (cl_B k len g N F FQ q) → mk_S j y (cl_K k len g N F FQ q) → (∀ q', q' < q → pc_M j y q' (cl_P k len g N F q') ∧ ms_T j y q' (cl_T k len g N F q')) → cm_F y i j → Ok G (d + 3) mX10_call P 62 [some (.ref y), some (.int (nI k)), none, some (.int (nI q)), none] [] j r := by
  obtain ⟨e8, Z8⟩ := hm.2 10 8 1 8 rfl (by decide)
  intro m
  induction m with
  | zero =>
    intro q j hq SB SK done Fr
    have hqR : q = R := by omega
    rw [hqR] at SB SK done ⊢
    have j6 : j y 6 = nI R := by rw [Fr _ _ (by omega) (by omega)]; exact h6
    refine sX10_call_62 y _ _ ?_
    rw [j6]
    exact ⟨hm.1, fun _ => fin j SB SK done Fr, fun hn => absurd ((nI_leI (by omega) (by omega)).mpr (Nat.le_refl R)) hn⟩
  | succ m ih =>
    intro q j hq SB SK done Fr
    obtain ⟨n4, n16, hl, hql⟩ := hok q (by omega)
    have j6 : j y 6 = nI R := by rw [Fr _ _ (by omega) (by omega)]; exact h6
    have j2 : j y 2 = nI len := by rw [Fr _ _ (by omega) (by omega)]; exact h2
    have jg : ∀ p, p < len → j (y + 3) p = g p := fun p hp => by rw [Fr _ _ (by omega) (by omega)]; exact hg p hp
    have jn : j (y + 5) q = nI (N q) := by rw [Fr _ _ (by omega) (by omega)]; exact (hrd q (by omega)).1
    have jl : ∀ z, z < N q → j (y + 6) (16 * q + z) = F q z := fun z hz => by rw [Fr _ _ (by omega) (by omega)]; exact ((hrd q (by omega)).2 z hz).1
    have jq : ∀ z, z < N q → j (y + 7) (16 * q + z) = FQ q z := fun z hz => by rw [Fr _ _ (by omega) (by omega)]; exact ((hrd q (by omega)).2 z hz).2
    have gt := cl_gt (k := k) (len := len) (g := g) hk hok q (by omega)
    have gB := gt.2.1.1
    have gK := gt.2.1.2
    have p2 := pl_st_2 (cl_P k len g N F q)
    have zst : nI (pl_st (cl_P k len g N F q)) = 0 ↔ pl_st (cl_P k len g N F q) = 0 := nI_eq (b := 0) (by omega) (by decide)
    have okQ := pl_res_ok k (N q) len (F q) g
    refine sX10_call_62 y _ _ ?_
    rw [j6]
    refine ⟨hm.1, fun hle => absurd ((nI_leI (by omega) (by omega)).mp hle) (by omega), fun _ => ?_⟩
    refine m_settle (n := N q) (len := len) (f := fun z => j (y + 6) (16 * q + z)) hm (by omega) hk jn n16 j2 h48 rfl (fun z hz => by show ∃ v : Nat, v ≤ 4 ∧ j (y + 6) (16 * q + z) = nI v; rw [jl z hz]; exact hl z hz) (fun j1 M1 F1 => ?_)
    rw [pl_res_cong (k := k) (f' := F q) (g' := g) jl jg] at M1
    obtain ⟨m1, m2, m3⟩ := M1
    have pm : pc_M j1 y q (cl_P k len g N F q) := ⟨m1, m3⟩
    have done1 : ∀ q', q' < q → pc_M j1 y q' (cl_P k len g N F q') ∧ ms_T j1 y q' (cl_T k len g N F q') := fun q' hq' => by
      obtain ⟨a1, a2⟩ := done q' hq'
      have tl := cl_T_ok (k := k) (len := len) (g := g) hk hok (q := q') (by omega)
      exact ⟨pm_same a1 (fun a b1 b2 => F1 _ _ (by omega) (by omega) (by omega) (by omega)), mt_same a2 (by omega) (F1 _ _ (by omega) (by omega) (by omega) (by omega)) (fun z _ _ => F1 _ _ (by omega) (by omega) (by omega) (by omega))⟩
    have SB1 : mb_S j1 y (cl_B k len g N F FQ q) := mb_same SB (F1 _ _ (by omega) (by omega) (by omega) (by omega)) (fun a z _ _ => F1 _ _ (by omega) (by omega) (by omega) (by omega))
    have SK1 : mk_S j1 y (cl_K k len g N F FQ q) := mk_same SK (F1 _ _ (by omega) (by omega) (by omega) (by omega)) (fun a z _ _ => F1 _ _ (by omega) (by omega) (by omega) (by omega))
    have next : ∀ j3, mb_S j3 y (cl_B k len g N F FQ (q + 1)) → mk_S j3 y (cl_K k len g N F FQ (q + 1)) → (∀ q', q' < q → pc_M j3 y q' (cl_P k len g N F q') ∧ ms_T j3 y q' (cl_T k len g N F q')) → pc_M j3 y q (cl_P k len g N F q) → ms_T j3 y q (cl_T k len g N F q) → cm_F y i j3 → ∀ x7 : Int32, x7 = nI q + 1 → Ok G (d + 3) mX10_call P 62 [some (.ref y), some (.int (nI k)), none, some (.int x7), none] [] j3 r := fun j3 A B D E1 E2 F3 x7 ex => by
      rw [ex, nI_1]
      refine ih (q + 1) j3 (by omega) A B (fun q' hq' => ?_) F3
      rcases (show q' < q ∨ q' = q by omega) with hlt | rfl
      · exact D q' hlt
      · exact ⟨E1, E2⟩
    rw [e8, Z8.len, nI_clamp (n := q) (by omega), m1]
    refine ⟨Z8.Y, vp_in_nI (by omega) (by decide), fun hz => ?_, fun hz => ?_⟩
    · have hp : ¬ pl_st (cl_P k len g N F q) = 0 := fun e => hz (zst.mpr e)
      obtain ⟨z1, z2, z3⟩ := rd_0 (n := N q) (f := F q) (fq := FQ q) (g := g) hp
      refine next j1 ?_ ?_ done1 pm ?_ (fun a z b1 b2 => by rw [F1 _ _ (by omega) (by omega) (by omega) (by omega), Fr a z b1 b2])
      · show mb_S j1 y (cl_B k len g N F FQ q ++ rd_B (N q) (F q) (FQ q) g (cl_P k len g N F q))
        rw [z2, List.append_nil]
        exact SB1
      · show mk_S j1 y (cl_K k len g N F FQ q ++ rd_K (N q) (F q) (FQ q) g (cl_P k len g N F q))
        rw [z3, List.append_nil]
        exact SK1
      · show ms_T j1 y q (rd_T (N q) (F q) g (cl_P k len g N F q))
        rw [z1]
        exact ⟨m2, fun k hk => absurd hk (Nat.not_lt_zero _)⟩
    · have hp := zst.mp hz
      obtain ⟨l, s, e, b, fe, ls, eQ, hlt⟩ := pl_st_0 hp
      rw [show pl_res k (N q) len (F q) g = some (l, s, e, b, fe, ls) from eQ] at okQ
      obtain ⟨o1, o2, o3, o4, o5⟩ := okQ
      obtain ⟨b1, b2, b3, b4⟩ := m3 l s e b fe ls eQ
      have hT : cl_T k len g N F q = tb (dp_c (sq_F (N q) (F q) b) g s) (N q) (e - s) := by
        unfold cl_T
        rw [eQ, rd_T_s, if_pos hlt]
      obtain ⟨⟨c1, c2, c3, c4, c5⟩, w2, w3, w4, w5, w6⟩ := wt_read (L := sq_F (N q) (F q) b) (Q := sq_FQ (N q) (FQ q) b) (g := g) (n := N q) (len := len) (s := s) (e := e) (K := l) (T := cl_T k len g N F q) (sq_F_ok hl) (sq_FQ_ok hql) o2 o3 o5.symm (by omega) hT
      have j1l : ∀ z, z < N q → j1 (y + 6) (16 * q + z) = F q z := fun z hz => by rw [F1 _ _ (by omega) (by omega) (by omega) (by omega)]; exact jl z hz
      have j1q : ∀ z, z < N q → j1 (y + 7) (16 * q + z) = FQ q z := fun z hz => by rw [F1 _ _ (by omega) (by omega) (by omega) (by omega)]; exact jq z hz
      have j1g : ∀ p, p < len → j1 (y + 3) p = g p := fun p hp => by rw [F1 _ _ (by omega) (by omega) (by omega) (by omega)]; exact jg p hp
      refine m_script (n := N q) (len := len) (b := b) (s := s) (e := e) (K := l) (f := fun z => j1 (y + 6) (16 * q + z)) (fq := fun z => j1 (y + 7) (16 * q + z)) (T := cl_T k len g N F q) hm (by omega) (by rw [F1 _ _ (by omega) (by omega) (by omega) (by omega)]; exact jn) n16 (by rw [F1 _ _ (by omega) (by omega) (by omega) (by omega)]; exact j2) h48 rfl rfl (fun z hz => by show ∃ v : Nat, v ≤ 4 ∧ j1 (y + 6) (16 * q + z) = nI v; rw [j1l z hz]; exact hl z hz) o4 b4 b1 b2 o2 o3 (by omega) ?_ ?_ (fun j4 T4 R4 F4 => ?_)
      · rw [o5]
        exact dp_c_cong (sq_F_cong j1l) j1g (by omega)
      · rw [hT]
        exact (tb_dp_cong j1l j1g o3).symm
      · have hrow : ∀ z, z < N q → j4 (y + 15) z = sq_F (N q) (F q) b z ∧ j4 (y + 16) z = sq_FQ (N q) (FQ q) b z := fun z hz => by
          obtain ⟨r1, r2⟩ := R4 z hz
          rw [r1, r2]
          exact ⟨sq_F_cong j1l z hz, sq_FQ_cong j1q z hz⟩
        refine m_watch (n := N q) (s := s) (T := cl_T k len g N F q) (L := sq_F (N q) (F q) b) (Q := sq_FQ (N q) (FQ q) b) (B := cl_B k len g N F FQ q) (K := cl_K k len g N F FQ q) hm (by omega) T4 (by omega) (by rw [F4 _ _ (by omega) (by omega) (by omega) (by omega) (by omega)]; exact b1) hrow (fun z hz => sq_F_ok hl z hz) n16 c1 (by omega) c3 c5 (mb_same SB1 (F4 _ _ (by omega) (by omega) (by omega) (by omega) (by omega)) (fun a z _ _ => F4 _ _ (by omega) (by omega) (by omega) (by omega) (by omega))) (mk_same SK1 (F4 _ _ (by omega) (by omega) (by omega) (by omega) (by omega)) (fun a z _ _ => F4 _ _ (by omega) (by omega) (by omega) (by omega) (by omega))) (by omega) (by omega) (fun j5 A5 B5 F5 => ?_)
        have eB : rd_B (N q) (F q) (FQ q) g (cl_P k len g N F q) = wtB (sq_F (N q) (F q) b) (sq_FQ (N q) (FQ q) b) (cl_T k len g N F q).reverse 0 s := by
          rw [eQ, rd_B_s, if_pos hlt, ← hT]
        have eK : rd_K (N q) (F q) (FQ q) g (cl_P k len g N F q) = wtK (sq_F (N q) (F q) b) (sq_FQ (N q) (FQ q) b) (cl_T k len g N F q).reverse 0 s none 0 1 := by
          rw [eQ, rd_K_s, if_pos hlt, ← hT]
        have tl := cl_T_ok (k := k) (len := len) (g := g) hk hok (q := q) (by omega)
        refine next j5 ?_ ?_ (fun q' hq' => ?_) ?_ ?_ ?_
        · show mb_S j5 y (cl_B k len g N F FQ q ++ rd_B (N q) (F q) (FQ q) g (cl_P k len g N F q))
          rw [eB]
          exact A5
        · show mk_S j5 y (cl_K k len g N F FQ q ++ rd_K (N q) (F q) (FQ q) g (cl_P k len g N F q))
          rw [eK]
          exact B5
        · obtain ⟨a1, a2⟩ := done1 q' hq'
          have tl := cl_T_ok (k := k) (len := len) (g := g) hk hok (q := q') (by omega)
          exact ⟨pm_same a1 (fun a d1 d2 => by rw [F5 _ _ (by omega) (by omega), F4 _ _ (by omega) (by omega) (by omega) (by omega) (by omega)]), mt_same a2 (by omega) (by rw [F5 _ _ (by omega) (by omega), F4 _ _ (by omega) (by omega) (by omega) (by omega) (by omega)]) (fun z d1 d2 => by rw [F5 _ _ (by omega) (by omega), F4 _ _ (by omega) (by omega) (by omega) (by omega) (by omega)])⟩
        · exact pm_same pm (fun a d1 d2 => by rw [F5 _ _ (by omega) (by omega), F4 _ _ (by omega) (by omega) (by omega) (by omega) (by omega)])
        · exact mt_same T4 (by omega) (F5 _ _ (by omega) (by omega)) (fun z _ _ => F5 _ _ (by omega) (by omega))
        · intro a z d1 d2
          rw [F5 _ _ (by omega) (by omega), F4 _ _ (by omega) (by omega) (by omega) (by omega) (by omega), F1 _ _ (by omega) (by omega) (by omega) (by omega), Fr a z d1 d2]

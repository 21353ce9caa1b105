/-! CALL: the reads one after the other, in the class -/
def cl_P (k len : Nat) (g : Nat → Int32) (N : Nat → Nat) (F : Nat → Nat → Int32) (q : Nat) : pl_Q := pl_res k (N q) len (F q) g
def cl_T (k len : Nat) (g : Nat → Int32) (N : Nat → Nat) (F : Nat → Nat → Int32) (q : Nat) : List Nat := rd_T (N q) (F q) g (cl_P k len g N F q)
def cl_B (k len : Nat) (g : Nat → Int32) (N : Nat → Nat) (F FQ : Nat → Nat → Int32) : Nat → List ob_B
  | 0 => []
  | q + 1 => cl_B k len g N F FQ q ++ rd_B (N q) (F q) (FQ q) g (cl_P k len g N F q)
def cl_K (k len : Nat) (g : Nat → Int32) (N : Nat → Nat) (F FQ : Nat → Nat → Int32) : Nat → List ob_K
  | 0 => []
  | q + 1 => cl_K k len g N F FQ q ++ rd_K (N q) (F q) (FQ q) g (cl_P k len g N F q)
/-- the reads are sound -/
def cl_ok (R : Nat) (N : Nat → Nat) (F FQ : Nat → Nat → Int32) : Prop := ∀ q, q < R → 4 ≤ N q ∧ N q ≤ 16 ∧ (∀ z, z < N q → ∃ v : Nat, v ≤ 4 ∧ F q z = nI v) ∧ ∀ z, z < N q → ∃ v : Nat, v ≤ 93 ∧ FQ q z = nI v
theorem cl_gt {k len R : Nat} {g : Nat → Int32} {N : Nat → Nat} {F FQ : Nat → Nat → Int32} (hk : k ≤ 3) (h : cl_ok R N F FQ) : ∀ m, m ≤ R → gt_ok len g m (cl_B k len g N F FQ m) (cl_K k len g N F FQ m) := by
  intro m
  induction m with
  | zero => intro _; exact gt_0 len g
  | succ m ih =>
    intro hm
    obtain ⟨-, h2, h3, h4⟩ := h m (by omega)
    exact gt_read (ih (by omega)) h2 h3 h4 hk (pl_res_ok k (N m) len (F m) g)
theorem rd_T_ok {k n len : Nat} {f g : Nat → Int32} {Q : pl_Q} (hk : k ≤ 3) (hn : n ≤ 16) (hQ : pl_ok k n len f g Q) : (rd_T n f g Q).length ≤ 19 := by
  match Q, hQ with
  | none, _ => exact Nat.zero_le _
  | some (l, s, e, b, fe, ls), hQ =>
    obtain ⟨q1, -, -, -, q5⟩ := hQ
    rw [rd_T_s]
    split
    · have := tb_len (dp_c (sq_F n f b) g s) _ n (e - s) rfl
      omega
    · exact Nat.zero_le _
theorem cl_T_ok {k len R q : Nat} {g : Nat → Int32} {N : Nat → Nat} {F FQ : Nat → Nat → Int32} (hk : k ≤ 3) (h : cl_ok R N F FQ) (hq : q < R) : (cl_T k len g N F q).length ≤ 19 := rd_T_ok hk (h q hq).2.1 (pl_res_ok k (N q) len (F q) g)
theorem rd_0 {n : Nat} {f fq g : Nat → Int32} {Q : pl_Q} (h : ¬ pl_st Q = 0) : rd_T n f g Q = [] ∧ rd_B n f fq g Q = [] ∧ rd_K n f fq g Q = [] := by
  match Q, h with
  | none, _ => exact ⟨rfl, rfl, rfl⟩
  | some (l, s, e, b, fe, ls), h =>
    have : ¬ ls < fe := fun hlt => h (by
      show (if ls < fe then 0 else 2) = 0
      rw [if_pos hlt])
    rw [rd_T_s, rd_B_s, rd_K_s, if_neg this, if_neg this, if_neg this]
    exact ⟨rfl, rfl, rfl⟩
theorem rs_pure {j : o_I} {rd n len k : Nat} {f fq g f' g' : Nat → Int32} (h : rs_S j rd n len k f fq g) (hf : ∀ z, z < n → f z = f' z) (hg : ∀ z, z < len → g z = g' z) : pc_C j rd (pl_res k n len f' g') ∧ sc_S j rd (rd_T n f' g' (pl_res k n len f' g')) := by
  obtain ⟨h1, h2, h3, h4⟩ := h
  rw [pl_res_cong (k := k) hf hg] at h2 h3 h4
  have ok := pl_res_ok k n len f' g'
  generalize pl_res k n len f' g' = Q at h2 h3 h4 ok ⊢
  refine ⟨⟨h2, fun l s e b fe ls eQ hlt => ?_⟩, ?_⟩
  · obtain ⟨a1, a2, a3, a4, -⟩ := h4 l s e b fe ls eQ hlt
    rw [eQ] at ok
    exact ⟨a1, a2, a3, a4, ok.2.2.2.1⟩
  · by_cases hp : pl_st Q = 0
    · obtain ⟨l, s, e, b, fe, ls, eQ, hlt⟩ := pl_st_0 hp
      obtain ⟨-, -, -, -, -, -, a7⟩ := h4 l s e b fe ls eQ hlt
      rw [eQ] at ok
      rw [eQ, rd_T_s, if_pos hlt, ← tb_dp_cong hf hg ok.2.2.1]
      exact a7
    · rw [(rd_0 (fq := fq) hp).1]
      exact ⟨h3 hp, fun k hk => absurd hk (Nat.not_lt_zero _)⟩
theorem c_gather0 {G : o_G} {d : Nat} {i : o_I} {r : o_R} {post : o_I → Prop} {pi rd : Nat} (hr : o_O G rd 5) (h9 : i rd 9 = 0) (h : post i) : SpV G (d + 1) mX4_gather [.ref pi, .ref rd] post i r :=
  sp_of 9 (by decide +kernel) (Nat.le_of_ble_eq_true rfl) rfl (sX4_gather_0 pi rd ⟨hr, fun x2 _ => sX4_gather_22 pi rd _ _ _ _ _ _ _ ⟨hr, fun _ => o_rv h, fun hn => absurd (by rw [h9]; decide) hn⟩⟩)
/-- a read's cells as the parser left them -/
def cl_R (j : o_I) (rd n : Nat) (f fq : Nat → Int32) : Prop := j rd 2 = nI n ∧ ∀ z, z < n → j (rd + 1) z = f z ∧ j (rd + 2) z = fq z
def cl_F (al pi sm : Nat) (i j : o_I) : Prop := ∀ a z, (a < al ∨ al + 19 ≤ a) → (a < pi ∨ pi + 291 ≤ a) → (a < sm + 4 ∨ sm + 36 ≤ a) → j a z = i a z
theorem pc_same {i j : o_I} {rd : Nat} {Q : pl_Q} (h : pc_C i rd Q) (e : ∀ z, j rd z = i rd z) : pc_C j rd Q := ⟨by rw [e]; exact h.1, fun l s e1 b fe ls eQ hlt => by rw [e, e, e, e]; exact h.2 l s e1 b fe ls eQ hlt⟩
theorem sc_same {i j : o_I} {rd : Nat} {T : List Nat} (h : sc_S i rd T) (e : ∀ z, j rd z = i rd z) (e3 : ∀ z, j (rd + 3) z = i (rd + 3) z) : sc_S j rd T := ⟨by rw [e]; exact h.1, fun k hk => by rw [e3]; exact h.2 k hk⟩
theorem cl_same {i j : o_I} {rd n : Nat} {f fq : Nat → Int32} (h : cl_R i rd n f fq) (e : ∀ a z, rd ≤ a → a ≤ rd + 2 → j a z = i a z) : cl_R j rd n f fq := ⟨by rw [e _ _ (by omega) (by omega)]; exact h.1, fun z hz => by rw [e _ _ (by omega) (by omega), e _ _ (by omega) (by omega)]; exact h.2 z hz⟩
theorem pi_same {i j : o_I} {pi : Nat} {B : List ob_B} {K : List ob_K} (h : pi_S i pi B K) (e : ∀ a z, pi ≤ a → a < pi + 291 → j a z = i a z) : pi_S j pi B K := fun p hp => ⟨st_same (h p hp).1 (fun a k ha => e a k (by omega) (by omega)), st_same (h p hp).2 (fun a k ha => e a k (by omega) (by omega))⟩
theorem c_callL {G : o_G} {d : Nat} {i : o_I} {r : o_R} {P : o_P} {x al pi jd ta sm k R len : Nat} {g : Nat → Int32} {N : Nat → Nat} {F FQ : Nat → Nat → Int32} (hx : ly_x G r x pi jd ta sm) (e4 : r x 4 = al) (hal : ly_al G r al) (d0 : al + 19 ≤ pi) (hk : k ≤ 3) (h48 : len ≤ 48) (hR : R ≤ 8) (hok : cl_ok R N F FQ) (h5 : i sm 5 = nI R) (h3 : i sm 3 = nI len) (hg : ∀ p, p < len → i (sm + 2) p = g p)
    (fin : ∀ j, pi_S j pi (cl_B k len g N F FQ R) (cl_K k len g N F FQ R) → (∀ q, q < R → pc_C j (sm + 4 + 4 * q) (cl_P k len g N F q) ∧ sc_S j (sm + 4 + 4 * q) (cl_T k len g N F q)) → cl_F al pi sm i j → SpI G (d + 8) mX0_reportSites [.ref x] (fun v j => P (some (.int v)) j r) j r) :
    ∀ m q j, q + m = R → pi_S j pi (cl_B k len g N F FQ q) (cl_K k len g N F FQ q) → (∀ q', q' < q → pc_C j (sm + 4 + 4 * q') (cl_P k len g N F q') ∧ sc_S j (sm + 4 + 4 * q') (cl_T k len g N F q')) → (∀ q', q ≤ q' → q' < R → cl_R j (sm + 4 + 4 * q') (N q') (F q') (FQ q')) → cl_F al pi sm i j → Ok G (d + 9) mX0_call P 70 [some (.ref x), some (.int (nI k)), none, some (.int (nI q))] [] j r := by
  obtain ⟨hO, e5, hpi, -, -, -, -, e8, hsm, d1, d2, d3⟩ := hx
  have eS := hsm.2.2.2.2.2.1
  have Z4 := hsm.2.2.2.2.2.2.1
  have hrd := hsm.2.2.2.2.2.2.2
  intro m
  induction m with
  | zero =>
    intro q j hq S done _ Fr
    have hqR : q = R := by omega
    rw [hqR] at S done ⊢
    have j5 : j sm 5 = nI R := by rw [Fr _ _ (by omega) (by omega) (by omega)]; exact h5
    refine sX0_call_70 x _ _ ?_
    rw [e8, j5]
    exact ⟨hO, hsm.1, fun _ => fin j S done Fr, fun hn => absurd ((nI_leI (by omega) (by omega)).mpr (Nat.le_refl R)) hn⟩
  | succ m ih =>
    intro q j hq S done todo Fr
    obtain ⟨n4, n16, hl, hql⟩ := hok q (by omega)
    obtain ⟨t1, t2⟩ := todo q (Nat.le_refl _) (by omega)
    obtain ⟨er, lr⟩ := hrd q (by omega)
    have j5 : j sm 5 = nI R := by rw [Fr _ _ (by omega) (by omega) (by omega)]; exact h5
    have j3 : j sm 3 = nI len := by rw [Fr _ _ (by omega) (by omega) (by omega)]; exact h3
    have jg : ∀ p, p < len → j (sm + 2) p = g p := fun p hp => by rw [Fr _ _ (by omega) (by omega) (by omega)]; exact hg p hp
    refine sX0_call_70 x _ _ ?_
    rw [e8, e5, e4, eS, Z4.len, nI_clamp (n := q) (by omega), er, j5]
    refine ⟨hO, hsm.1, fun hle => absurd ((nI_leI (by omega) (by omega)).mp hle) (by omega), fun _ => ⟨Z4.Y, vp_in_nI (by omega) (by decide), hal.1, ?_⟩⟩
    refine c_settle (k := k) (n := N q) (len := len) hal lr hsm (by omega) (by omega) hk t1 n4 n16 j3 h48 (fun z hz => by rw [(t2 z hz).1]; exact hl z hz) (fun j1 S1 F1 => ⟨hpi.1, ?_⟩)
    obtain ⟨p1, p2⟩ := rs_pure (f' := F q) (g' := g) S1 (fun z hz => (t2 z hz).1) jg
    have next : ∀ j2, pi_S j2 pi (cl_B k len g N F FQ (q + 1)) (cl_K k len g N F FQ (q + 1)) → pi_F pi j1 j2 → ∀ x11 : Int32, x11 = nI q + 1 → Ok G (d + 9) mX0_call P 70 [some (.ref x), some (.int (nI k)), none, some (.int x11)] [] j2 r := fun j2 S2 F2 x11 e11 => by
      rw [e11, nI_1]
      refine ih (q + 1) j2 (by omega) S2 (fun q' hq' => ?_) (fun q' h1 h2 => ?_) (fun a z n1 n2 n3 => by rw [F2 a z n2, F1 a z n1 (by omega), Fr a z n1 n2 n3])
      · rcases (show q' < q ∨ q' = q by omega) with hlt | rfl
        · obtain ⟨a1, a2⟩ := done q' hlt
          exact ⟨pc_same a1 (fun z => by rw [F2 _ _ (by omega), F1 _ _ (by omega) (by omega)]), sc_same a2 (fun z => by rw [F2 _ _ (by omega), F1 _ _ (by omega) (by omega)]) (fun z => by rw [F2 _ _ (by omega), F1 _ _ (by omega) (by omega)])⟩
        · exact ⟨pc_same p1 (fun z => F2 _ _ (by omega)), sc_same p2 (fun z => F2 _ _ (by omega)) (fun z => F2 _ _ (by omega))⟩
      · exact cl_same (todo q' (by omega) h2) (fun a z b1 b2 => by rw [F2 _ _ (by omega), F1 _ _ (by omega) (by omega)])
    have S' : pi_S j1 pi (cl_B k len g N F FQ q) (cl_K k len g N F FQ q) := pi_same S (fun a z b1 b2 => F1 a z (by omega) (by omega))
    by_cases hp : pl_st (cl_P k len g N F q) = 0
    · obtain ⟨l, s, e, b, fe, ls, eQ, hlt⟩ := pl_st_0 hp
      have okQ := pl_res_ok k (N q) len (F q) g
      rw [show pl_res k (N q) len (F q) g = some (l, s, e, b, fe, ls) from eQ] at okQ
      obtain ⟨o1, o2, o3, o4, o5⟩ := okQ
      have eQ' : pl_res k (N q) len (j (sm + 4 + 4 * q + 1)) (j (sm + 2)) = some (l, s, e, b, fe, ls) := by
        rw [pl_res_cong (k := k) (fun z hz => (t2 z hz).1) jg]
        exact eQ
      obtain ⟨b1, -, -, -, b5, b6, -⟩ := S1.2.2.2 l s e b fe ls eQ' hlt
      have hT : cl_T k len g N F q = tb (dp_c (sq_F (N q) (F q) b) g s) (N q) (e - s) := by
        unfold cl_T
        rw [eQ, rd_T_s, if_pos hlt]
      obtain ⟨⟨c1, c2, c3, c4, c5⟩, -⟩ := wt_read (L := sq_F (N q) (F q) b) (Q := sq_FQ (N q) (FQ q) b) (g := g) (n := N q) (len := len) (s := s) (e := e) (K := l) (T := cl_T k len g N F q) (sq_F_ok hl) (sq_FQ_ok hql) o2 o3 o5.symm (by omega) hT
      have gt := cl_gt (len := len) (g := g) hk hok q (by omega)
      have r4 : ∀ t ∈ (cl_T k len g N F q).reverse, t = 1 ∨ t = 2 ∨ t = 3 := fun t ht => c5 t (List.mem_reverse.mp ht)
      have cA : 0 + nA (cl_T k len g N F q).reverse ≤ N q := by rw [nA_rev]; omega
      have hLc : ∀ z, z < N q → j1 (sm + 4 + 4 * q + 1) z = sq_F (N q) (F q) b z := fun z hz => by rw [b5]; exact sq_F_cong (fun z hz => (t2 z hz).1) z hz
      have hQc : ∀ z, z < N q → j1 (sm + 4 + 4 * q + 2) z = sq_FQ (N q) (FQ q) b z := fun z hz => by rw [b6]; exact sq_FQ_cong (fun z hz => (t2 z hz).2) z hz
      refine c_gather (s := s) (n := N q) (T := cl_T k len g N F q) hpi lr (by omega) b1 p2 (by omega) (fun z hz => by rw [hLc z hz]; exact sq_F_ok hl z hz) c1 n16 (by omega) c3 c5 S' (fun p _ => by have := (gt.2.2.1 p).1; omega) (fun p _ => by have := (gt.2.2.1 p).2; omega) (fun j2 S2 F2 => next j2 ?_ F2)
      have eB : rd_B (N q) (F q) (FQ q) g (cl_P k len g N F q) = wtB (j1 (sm + 4 + 4 * q + 1)) (j1 (sm + 4 + 4 * q + 2)) (cl_T k len g N F q).reverse 0 s := by
        rw [eQ, rd_B_s, if_pos hlt, ← hT]
        exact (wtB_cong hLc hQc _ 0 s r4 cA).symm
      have eK : rd_K (N q) (F q) (FQ q) g (cl_P k len g N F q) = wtK (j1 (sm + 4 + 4 * q + 1)) (j1 (sm + 4 + 4 * q + 2)) (cl_T k len g N F q).reverse 0 s none 0 1 := by
        rw [eQ, rd_K_s, if_pos hlt, ← hT]
        exact (wtK_cong hLc hQc _ 0 s none 0 1 r4 cA (fun a0 p0 e => by cases e)).symm
      show pi_S j2 pi (cl_B k len g N F FQ q ++ rd_B (N q) (F q) (FQ q) g (cl_P k len g N F q)) (cl_K k len g N F FQ q ++ rd_K (N q) (F q) (FQ q) g (cl_P k len g N F q))
      rw [eB, eK]
      exact S2
    · obtain ⟨-, z2, z3⟩ := rd_0 (n := N q) (f := F q) (fq := FQ q) (g := g) hp
      have h9 : j1 (sm + 4 + 4 * q) 9 = 0 := S1.2.2.1 (by
        rw [pl_res_cong (k := k) (fun z hz => (t2 z hz).1) jg]
        exact hp)
      refine c_gather0 lr.1 h9 (next j1 ?_ (fun a z _ => rfl))
      show pi_S j1 pi (cl_B k len g N F FQ q ++ rd_B (N q) (F q) (FQ q) g (cl_P k len g N F q)) (cl_K k len g N F FQ q ++ rd_K (N q) (F q) (FQ q) g (cl_P k len g N F q))
      rw [z2, z3, List.append_nil, List.append_nil]
      exact S'

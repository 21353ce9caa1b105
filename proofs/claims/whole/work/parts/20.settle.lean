/-! Aligner.settle: a read's place and script -/
theorem o_re {i j : o_I} (a : Nat) (h : ∀ m, j a m = i a m) : j a = i a := funext h
/-- the letters of strand b -/
def sq_F (n : Nat) (f : Nat → Int32) (b : Nat) : Nat → Int32 := if b = 0 then f else sq_tl n f
def sq_FQ (n : Nat) (f : Nat → Int32) (b : Nat) : Nat → Int32 := if b = 0 then f else sq_tq n f
def pl_res (k n len : Nat) (f g : Nat → Int32) : pl_Q := pl_all k 1 n len (sq_tl n f) g len 0 (pl_all k 0 n len f g len 0 none)
/-- what a found place says -/
def pl_ok (k n len : Nat) (f g : Nat → Int32) : pl_Q → Prop
  | none => True
  | some (l, s, e, b, _, _) => l ≤ k ∧ s < e ∧ e ≤ len ∧ b ≤ 1 ∧ l = dp (dp_c (sq_F n f b) g s) n (e - s)
theorem pl_step_ok {k n len s e b x : Nat} {f g : Nat → Int32} {q : pl_Q} (hq : pl_ok k n len f g q) (hs : s < e) (he : e ≤ len) (hb : b ≤ 1) (hx : x = dp (dp_c (sq_F n f b) g s) n (e - s)) : pl_ok k n len f g (pl_step k s e b x q) := by
  match q, hq with
  | none, _ =>
    show pl_ok k n len f g (if x ≤ k then _ else _)
    split
    · rename_i h
      exact ⟨h, hs, he, hb, hx⟩
    · trivial
  | some (l, s0, e0, b0, fe, ls), hq =>
    obtain ⟨q1, q2, q3, q4, q5⟩ := hq
    show pl_ok k n len f g (if x < l then _ else _)
    split
    · exact ⟨by omega, hs, he, hb, hx⟩
    · split
      · rename_i h
        split
        · exact ⟨q1, hs, he, hb, by omega⟩
        · exact ⟨q1, q2, q3, q4, q5⟩
      · exact ⟨q1, q2, q3, q4, q5⟩
theorem pl_row_ok {k n len s b : Nat} {f g : Nat → Int32} {q : pl_Q} (hq : pl_ok k n len f g q) (hb : b ≤ 1) : ∀ m, s + m ≤ len → pl_ok k n len f g (pl_row k s b (dp (dp_c (sq_F n f b) g s) n) m q) := by
  intro m
  induction m with
  | zero => intro _; exact hq
  | succ m ih =>
    intro hm
    refine pl_step_ok (ih (by omega)) (by omega) hm hb ?_
    rw [show s + (m + 1) - s = m + 1 by omega]
theorem pl_all_ok {k n len b : Nat} {f g : Nat → Int32} (hb : b ≤ 1) : ∀ m s q, s + m = len → pl_ok k n len f g q → pl_ok k n len f g (pl_all k b n len (sq_F n f b) g m s q) := by
  intro m
  induction m with
  | zero => intro s q _ hq; exact hq
  | succ m ih =>
    intro s q hs hq
    exact ih (s + 1) _ (by omega) (pl_row_ok hq hb _ (by omega))
theorem pl_res_ok (k n len : Nat) (f g : Nat → Int32) : pl_ok k n len f g (pl_res k n len f g) := by
  have h1 : pl_ok k n len f g (pl_all k 0 n len f g len 0 none) := pl_all_ok (b := 0) (by omega) len 0 none (by omega) trivial
  exact pl_all_ok (b := 1) (by omega) len 0 _ (by omega) h1
theorem sq_op2 {x : Int32} (h : ∃ v : Nat, v ≤ 4 ∧ x = nI v) : sq_op (sq_op x) = x := by
  obtain ⟨v, hv, rfl⟩ := h
  rcases (show v = 0 ∨ v = 1 ∨ v = 2 ∨ v = 3 ∨ v = 4 by omega) with rfl | rfl | rfl | rfl | rfl <;> decide
theorem sq_tl2 {n : Nat} {f : Nat → Int32} (h : ∀ k, k < n → ∃ v : Nat, v ≤ 4 ∧ f k = nI v) : sq_tl n (sq_tl n f) = f := by
  funext k
  unfold sq_tl
  by_cases hk : k < n
  · rw [if_pos hk, if_pos (by omega), show n - 1 - (n - 1 - k) = k by omega]
    exact sq_op2 (h k hk)
  · rw [if_neg hk, if_neg hk]
theorem sq_tq2 {n : Nat} {f : Nat → Int32} : sq_tq n (sq_tq n f) = f := by
  funext k
  unfold sq_tq
  by_cases hk : k < n
  · rw [if_pos hk, if_pos (by omega), show n - 1 - (n - 1 - k) = k by omega]
  · rw [if_neg hk, if_neg hk]
/-- 0 placed, 1 lost, 2 doubtful -/
def pl_st : pl_Q → Nat
  | none => 1
  | some (_, _, _, _, fe, ls) => if ls < fe then 0 else 2
/-- what a read holds behind settle -/
def rs_S (j : o_I) (rd n len k : Nat) (f fq g : Nat → Int32) : Prop := j rd 2 = nI n ∧ j rd 3 = nI (pl_st (pl_res k n len f g)) ∧ (¬ pl_st (pl_res k n len f g) = 0 → j rd 9 = 0) ∧ ∀ l s e b fe ls, pl_res k n len f g = some (l, s, e, b, fe, ls) → ls < fe → j rd 4 = nI s ∧ j rd 5 = nI e ∧ j rd 6 = nI l ∧ j rd 7 = nI b ∧ j (rd + 1) = sq_F n f b ∧ j (rd + 2) = sq_FQ n fq b ∧ sc_S j rd (tb (dp_c (sq_F n f b) g s) n (e - s))
theorem c_state {G : o_G} {d : Nat} {i : o_I} {r : o_R} {post : Int32 → o_I → Prop} {al k : Nat} {q : pl_Q} (hO : o_O G al 1) (hq : pq_S i al k q) (h : post (nI (pl_st q)) i) : SpI G (d + 1) mX1_state [.ref al] post i r := by
  refine sp_of 0 (by decide +kernel) (Nat.le_of_ble_eq_true rfl) rfl (sX1_state_0 al ⟨hO, ?_⟩)
  match q, hq, h with
  | none, hq, h => exact ⟨fun h0 => absurd hq.2 h0, fun _ => o_ri h⟩
  | some (l, s, e, b, fe, ls), hq, h =>
    obtain ⟨-, q2, -, -, -, q6, q7, -, -, -, -, q12, q13⟩ := hq
    refine ⟨fun _ x4 e4 => ?_, fun h0 => absurd (q2.symm.trans h0) (by decide)⟩
    have e : x4 = nI (pl_st (some (l, s, e, b, fe, ls))) := by
      rw [e4, q6, q7]
      show _ = nI (if ls < fe then 0 else 2)
      by_cases hlt : ls < fe
      · rw [if_pos ((nI_ltI (by omega) (by omega)).mpr hlt), if_pos hlt]
        rfl
      · rw [if_neg (fun z => hlt ((nI_ltI (by omega) (by omega)).mp z)), if_neg hlt]
        rfl
    rw [e]
    exact o_ri h
theorem c_settle {G : o_G} {d : Nat} {i : o_I} {r : o_R} {post : o_I → Prop} {al rd sm k n len : Nat} (hal : ly_al G r al) (hr : ly_rd G r rd) (hs : ly_sm G r sm) (d1 : al + 19 ≤ sm) (d2 : sm + 4 ≤ rd) (hk : k ≤ 3) (hn : i rd 2 = nI n) (hn4 : 4 ≤ n) (hn16 : n ≤ 16) (hl : i sm 3 = nI len) (hl48 : len ≤ 48) (hlet : ∀ q, q < n → ∃ v : Nat, v ≤ 4 ∧ i (rd + 1) q = nI v)
    (h : ∀ j, rs_S j rd n len k (i (rd + 1)) (i (rd + 2)) (i (sm + 2)) → (∀ a m, (a < al ∨ al + 19 ≤ a) → (a < rd ∨ rd + 4 ≤ a) → j a m = i a m) → post j) : SpV G (d + 6) mX1_settle [.ref al, .ref rd, .ref sm, .int (nI k)] post i r := by
  generalize hf : i (rd + 1) = f at h hlet
  generalize hfq : i (rd + 2) = fq at h
  generalize hg : i (sm + 2) = g at h
  refine sp_of 0 (by decide +kernel) (Nat.le_of_ble_eq_true rfl) rfl (sX1_settle_0 al rd sm _ ⟨hal.1, fun i2 e2 i3 e3 => ?_⟩)
  have o3 : ∀ a m, a ≠ al → i3 a m = i a m := fun a m ha => by rw [e3, e2, o_up_a ha, o_up_a ha]
  have q3 : pq_S i3 al k none := ⟨by rw [e3, e2]; simp [o_up], by rw [e3]; simp [o_up]⟩
  refine c_search (b := 0) hal hr hs d1 d2 hk (by rw [o3 rd 2 (by omega)]; exact hn) hn4 hn16 (by rw [o3 sm 3 (by omega)]; exact hl) hl48 (by omega) q3 (fun i4 p4 F4 => ⟨hr.1, ?_⟩)
  rw [o_re (rd + 1) (fun m => o3 (rd + 1) m (by omega)), o_re (sm + 2) (fun m => o3 (sm + 2) m (by omega))] at p4
  have p4 : pq_S i4 al k (pl_all k 0 n len f g len 0 none) := by
    rw [← hf, ← hg]
    exact p4
  have o4 : ∀ a m, (a < al ∨ al + 19 ≤ a) → i4 a m = i a m := fun a m ha => by rw [F4 a m ha, o3 a m (by omega)]
  refine c_turn hr (by rw [o4 rd 2 (by omega)]; exact hn) (by omega) hn16 (fun i6 t1 t2 o6' => ?_)
  have r1 : i4 (rd + 1) = f := by rw [← hf]; exact funext (fun m => o4 _ m (by omega))
  have r2 : i4 (rd + 2) = fq := by rw [← hfq]; exact funext (fun m => o4 _ m (by omega))
  rw [r1] at t1
  rw [r2] at t2
  have o6 : ∀ a m, (a < al ∨ al + 19 ≤ a) → a ≠ rd + 1 → a ≠ rd + 2 → i6 a m = i a m := fun a m ha h1 h2 => by rw [o6' a m h1 h2, o4 a m ha]
  have p6 : pq_S i6 al k (pl_all k 0 n len f g len 0 none) := pq_same p4 (fun m _ _ => o6' al m (by omega) (by omega))
  refine c_search (b := 1) hal hr hs d1 d2 hk (by rw [o6 rd 2 (by omega) (by omega) (by omega)]; exact hn) hn4 hn16 (by rw [o6 sm 3 (by omega) (by omega) (by omega)]; exact hl) hl48 (by omega) p6 (fun i7 p7 F7 => ?_)
  have g6 : i6 (sm + 2) = g := by rw [← hg]; exact funext (fun m => o6 _ m (by omega) (by omega) (by omega))
  rw [t1, g6] at p7
  have p7 : pq_S i7 al k (pl_res k n len f g) := p7
  refine c_state hal.1 p7 ?_
  have o7 : ∀ a m, (a < al ∨ al + 19 ≤ a) → a ≠ rd + 1 → a ≠ rd + 2 → i7 a m = i a m := fun a m ha h1 h2 => by rw [F7 a m ha, o6 a m ha h1 h2]
  have l7 : i7 (rd + 1) = sq_tl n f := by rw [← t1]; exact funext (fun m => F7 _ m (by omega))
  have l7q : i7 (rd + 2) = sq_tq n fq := by rw [← t2]; exact funext (fun m => F7 _ m (by omega))
  intro i9 e9 i10 e10
  have v3 : i10 rd 3 = nI (pl_st (pl_res k n len f g)) := by rw [e10, e9]; simp [o_up]
  have v9 : i10 rd 9 = 0 := by rw [e10]; simp [o_up]
  have v2 : i10 rd 2 = nI n := by
    rw [e10, e9, o_up_k (by decide), o_up_k (by decide), o7 rd 2 (by omega) (by omega) (by omega)]
    exact hn
  have o10 : ∀ a m, a ≠ rd → i10 a m = i7 a m := fun a m ha => by rw [e10, e9, o_up_a ha, o_up_a ha]
  have fr10 : ∀ a m, (a < al ∨ al + 19 ≤ a) → (a < rd ∨ rd + 4 ≤ a) → i10 a m = i a m := fun a m h1 h2 => by rw [o10 a m (by omega), o7 a m h1 (by omega) (by omega)]
  have st2 : pl_st (pl_res k n len f g) ≤ 2 := by
    match pl_res k n len f g with
    | none => decide
    | some (_, _, _, _, fe, ls) => show (if ls < fe then 0 else 2) ≤ 2; split <;> omega
  have z3 : i10 rd 3 = 0 ↔ pl_st (pl_res k n len f g) = 0 := by
    rw [v3]
    exact nI_eq (b := 0) (by omega) (by decide)
  refine ⟨fun h0 => ?_, fun h0 => ?_⟩
  · have h0' := z3.mp h0
    have hok := pl_res_ok k n len f g
    generalize hres : pl_res k n len f g = R at p7 v3 h0' hok h
    match R, p7, v3, h0', hok, h with
    | none, _, _, h0', _, _ => exact absurd h0' (by decide)
    | some (l, s, e, b, fe, ls), p7, v3, h0', hok, h =>
      have hlt : ls < fe := by
        by_cases z : ls < fe
        · exact z
        · have : (if ls < fe then 0 else 2) = 0 := h0'
          rw [if_neg z] at this
          exact absurd this (by decide)
      obtain ⟨k1, k2, k3, k4, k5⟩ := hok
      obtain ⟨a1, a2, a3, a4, a5, a6, a7, -⟩ := p7
      -- the rest, with the letters of strand b
      have main : ∀ j : o_I, (∀ a m, a ≠ rd + 1 → a ≠ rd + 2 → j a m = i10 a m) → j (rd + 1) = sq_F n f b → j (rd + 2) = sq_FQ n fq b → Ok G (d + 6) mX1_settle (fun v j q => q = r ∧ v = none ∧ post j) 60 [some (.ref al), some (.ref rd), some (.ref sm), none] [] j r := by
        intro j jo j1 j2
        have ja : ∀ m, j al m = i7 al m := fun m => by rw [jo al m (by omega) (by omega), o10 al m (by omega)]
        refine sX1_settle_60 al rd sm ⟨hal.1, hr.1, fun u3 w3 u4 w4 u5 w5 => ⟨?_, fun u6 w6 => ?_⟩⟩
        · rw [w5, w4, w3, o_up_a (by omega), o_up_a (by omega), o_up_a (by omega), ja 5, a5]
          rcases (show b = 0 ∨ b = 1 by omega) with rfl | rfl
          · exact Or.inl rfl
          · exact Or.inr rfl
        · have x3 : u3 al = j al := by rw [w3, o_up_row (by omega)]
          have x4 : u4 al = j al := by rw [w4, o_up_row (by omega), x3]
          have x5 : u5 al = j al := by rw [w5, o_up_row (by omega), x4]
          rw [ja 3, a3] at w3
          rw [x3, ja 4, a4] at w4
          rw [x4, ja 1, a1] at w5
          rw [x5, ja 5, a5] at w6
          have uo : ∀ a m, a ≠ rd → u6 a m = j a m := fun a m ha => by rw [w6, w5, w4, w3, o_up_a ha, o_up_a ha, o_up_a ha, o_up_a ha]
          have ur : ∀ m, m ≠ 4 → m ≠ 5 → m ≠ 6 → m ≠ 7 → u6 rd m = j rd m := fun m m4 m5 m6 m7 => by rw [w6, w5, w4, w3, o_up_k m7, o_up_k m6, o_up_k m5, o_up_k m4]
          have s4 : u6 rd 4 = nI s := by rw [w6, w5, w4, w3]; simp [o_up]
          have s5 : u6 rd 5 = nI e := by rw [w6, w5, w4]; simp [o_up]
          have s6 : u6 rd 6 = nI l := by rw [w6, w5]; simp [o_up]
          have s7 : u6 rd 7 = nI b := by rw [w6]; simp [o_up]
          have L1 : u6 (rd + 1) = sq_F n f b := by rw [← j1]; exact funext (fun m => uo _ m (by omega))
          have L2 : u6 (rd + 2) = sq_FQ n fq b := by rw [← j2]; exact funext (fun m => uo _ m (by omega))
          have L3 : u6 (sm + 2) = g := by
            rw [← hg]
            exact funext (fun m => by rw [uo _ m (by omega), jo _ m (by omega) (by omega), o10 _ m (by omega), o7 _ m (by omega) (by omega) (by omega)])
          refine c_writeScript (s := s) (e := e) (n := n) (K := l) (len := len) (c := dp_c (sq_F n f b) g s) hal hr hs d1 d2 (by rw [uo al 1 (by omega), ja 1]; exact a1) (by omega) (by rw [ur 2 (by decide) (by decide) (by decide) (by decide), jo rd 2 (by omega) (by omega)]; exact v2) hn16 (by rw [uo sm 3 (by omega), jo sm 3 (by omega) (by omega), o10 sm 3 (by omega), o7 sm 3 (by omega) (by omega) (by omega)]; exact hl) hl48 s4 s5 k2 k3 (by rw [ur 9 (by decide) (by decide) (by decide) (by decide), jo rd 9 (by omega) (by omega)]; exact v9) (by rw [L1, L3]) k5.symm (fun j8 b1 b2 => o_rv (h j8 ⟨?_, ?_, ?_, ?_⟩ ?_))
          · rw [b2 rd 2 (by omega) (by omega) (by omega), ur 2 (by decide) (by decide) (by decide) (by decide), jo rd 2 (by omega) (by omega)]
            exact v2
          · rw [b2 rd 3 (by omega) (by omega) (by omega), ur 3 (by decide) (by decide) (by decide) (by decide), jo rd 3 (by omega) (by omega), hres]
            exact v3
          · rw [hres]
            exact fun z => absurd h0' z
          · rw [hres]
            intro l' s' e' b' fe' ls' he _
            cases he
            exact ⟨by rw [b2 rd 4 (by omega) (by omega) (by omega)]; exact s4, by rw [b2 rd 5 (by omega) (by omega) (by omega)]; exact s5, by rw [b2 rd 6 (by omega) (by omega) (by omega)]; exact s6, by rw [b2 rd 7 (by omega) (by omega) (by omega)]; exact s7, by rw [← L1]; exact funext (fun m => b2 _ m (by omega) (by omega) (by omega)), by rw [← L2]; exact funext (fun m => b2 _ m (by omega) (by omega) (by omega)), b1⟩
          · intro a m h1 h2
            rw [b2 a m h1 (by omega) (by omega), uo a m (by omega), jo a m (by omega) (by omega)]
            exact fr10 a m h1 h2
      have vb : i10 al 5 = nI b := by rw [o10 al 5 (by omega)]; exact a5
      refine ⟨fun hb1 => ?_, fun hb0 => ?_⟩
      · have b1 : b = 1 := by
          rcases (show b = 0 ∨ b = 1 by omega) with z | z
          · rw [vb, z] at hb1
            exact absurd rfl hb1
          · exact z
        refine main i10 (fun _ _ _ _ => rfl) ?_ ?_
        · rw [o_re (rd + 1) (fun m => o10 (rd + 1) m (by omega)), b1]
          exact l7
        · rw [o_re (rd + 2) (fun m => o10 (rd + 2) m (by omega)), b1]
          exact l7q
      · have b0 : b = 0 := (nI_eq (b := 0) (by omega) (by decide)).mp (by rw [← vb]; exact hb0)
        refine c_turn hr v2 (by omega) hn16 (fun j t3 t4 jo => main j jo ?_ ?_)
        · rw [t3, o_re (rd + 1) (fun m => o10 (rd + 1) m (by omega)), b0]
          show sq_tl n (i7 (rd + 1)) = f
          rw [l7]
          exact sq_tl2 hlet
        · rw [t4, o_re (rd + 2) (fun m => o10 (rd + 2) m (by omega)), b0]
          show sq_tq n (i7 (rd + 2)) = fq
          rw [l7q]
          exact sq_tq2
  · have h0' : ¬ pl_st (pl_res k n len f g) = 0 := fun z => h0 (z3.mpr z)
    refine o_rv (h i10 ⟨v2, v3, fun _ => v9, fun l s e b fe ls he hlt => ?_⟩ fr10)
    rw [he] at h0'
    exact absurd (if_pos hlt) h0'

/-! FROM THE ENTRY TO THE LOOP -/
theorem nl_m_of {q : n_R} {y : Nat} (h0 : q y 0 = some (y + 1)) (h1 : q y 1 = some (y + 2)) (h2 : q y 3 = some (y + 3)) (h3 : q y 5 = some (y + 4)) (h4 : q y 7 = some (y + 5)) (h5 : q y 8 = some (y + 6)) (h6 : q y 9 = some (y + 7)) (h7 : q y 10 = some (y + 8)) (h8 : q y 11 = some (y + 9)) (h9 : q y 12 = some (y + 10)) (h10 : q y 13 = some (y + 11)) (h11 : q y 14 = some (y + 12)) (h12 : q y 15 = some (y + 13)) (h13 : q y 16 = some (y + 14)) (h14 : q y 17 = some (y + 15)) (h15 : q y 18 = some (y + 16)) (h16 : q y 19 = some (y + 17)) (h17 : q y 21 = some (y + 18)) (h18 : q y 22 = some (y + 19)) (h19 : q y 23 = some (y + 20)) (h20 : q y 25 = some (y + 21)) (h21 : q y 26 = some (y + 22)) (h22 : q y 27 = some (y + 23)) (h23 : q y 32 = some (y + 24)) (h24 : q y 33 = some (y + 25)) (h25 : q y 34 = some (y + 26)) : nl_m q y := by
  intro k o t n e ho
  match k, e with
  | 0, e => cases e; exact h0
  | 1, e => cases e; exact h1
  | 2, e => cases e; exact absurd rfl ho
  | 3, e => cases e; exact h2
  | 4, e => cases e; exact absurd rfl ho
  | 5, e => cases e; exact h3
  | 6, e => cases e; exact absurd rfl ho
  | 7, e => cases e; exact h4
  | 8, e => cases e; exact h5
  | 9, e => cases e; exact h6
  | 10, e => cases e; exact h7
  | 11, e => cases e; exact h8
  | 12, e => cases e; exact h9
  | 13, e => cases e; exact h10
  | 14, e => cases e; exact h11
  | 15, e => cases e; exact h12
  | 16, e => cases e; exact h13
  | 17, e => cases e; exact h14
  | 18, e => cases e; exact h15
  | 19, e => cases e; exact h16
  | 20, e => cases e; exact absurd rfl ho
  | 21, e => cases e; exact h17
  | 22, e => cases e; exact h18
  | 23, e => cases e; exact h19
  | 24, e => cases e; exact absurd rfl ho
  | 25, e => cases e; exact h20
  | 26, e => cases e; exact h21
  | 27, e => cases e; exact h22
  | 28, e => cases e; exact absurd rfl ho
  | 29, e => cases e; exact absurd rfl ho
  | 30, e => cases e; exact absurd rfl ho
  | 31, e => cases e; exact absurd rfl ho
  | 32, e => cases e; exact h23
  | 33, e => cases e; exact h24
  | 34, e => cases e; exact h25
  | 35, e => cases e; exact absurd rfl ho
  | 36, e => cases e; exact absurd rfl ho
  | 37, e => cases e; exact absurd rfl ho
  | 38, e => cases e; exact absurd rfl ho
  | 39, e => cases e; exact absurd rfl ho
  | 40, e => cases e; exact absurd rfl ho
  | k + 41, e => cases e; exact absurd rfl ho

/-- what holds when both are made -/
theorem lw_0 {l : Launch} {D : va_G} {kA : Nat → ClassId} {x b L : Nat} {xs : Nat → Int32} {ad : Nat → Nat} {j : o_I} {q : n_R} (hI : n_I (g_G l D kA x b L xs ad) x 422 j q) (hc : nl_cl q x) (hm : nl_m q (x + 395)) : lw_I (g_G l D kA x b L xs ad) x j (n_r q) := by
  have z : ∀ a k, k ≠ 3 → j a k = 0 := fun a k hk => (hI.2 a k).resolve_right (fun h => hk h.1)
  have z3 : j (x + 323) 3 = 0 := (hI.2 (x + 323) 3).resolve_right (fun h => by
    have h2 : n_S x (x + 323) = (0, 5) := h.2
    rw [n_S_at] at h2
    exact absurd h2 (by decide +kernel))
  have st : ∀ s, st_S j s (jd_l (mo_at 0 ([] : mo_O))) := fun s => ⟨z _ _ (by decide), Nat.zero_le _, (fun k o ho => by cases ho)⟩
  refine ⟨x + 323, x + 359, g_cl hc, g_m hm, ⟨0, 0, fun _ => 0, fun _ => 0, ⟨⟨z _ _ (by decide), Nat.zero_le _, fun k hk => absurd hk (Nat.not_lt_zero _)⟩, z _ _ (by decide), Nat.zero_le _, fun k hk => absurd hk (Nat.not_lt_zero _)⟩, ⟨⟨z _ _ (by decide), Nat.zero_le _, fun k hk => absurd hk (Nat.not_lt_zero _)⟩, z _ _ (by decide), Nat.zero_le _, fun k hk => absurd hk (Nat.not_lt_zero _)⟩, fun k hk => absurd hk (Nat.not_lt_zero _), fun k hk => absurd hk (Nat.not_lt_zero _)⟩, 0, 0, fun _ => none, fun _ => [], [], [], [], ⟨z _ _ (by decide), fun k hk => absurd hk (Nat.not_lt_zero _), z3, fun p _ => ⟨st _, st _⟩, z _ _ (by decide), (fun k c hk => by cases hk)⟩, ⟨z _ _ (by decide), fun k hk => absurd hk (Nat.not_lt_zero _), ⟨⟨z _ _ (by decide), (fun k o ho => by cases ho)⟩, z _ _ (by decide), (fun k o ho => by cases ho)⟩, Or.inl ⟨z _ _ (by decide), rfl⟩⟩, Nat.zero_le _, fun k hk => absurd hk (Nat.not_lt_zero _), ⟨Nat.zero_le _, (fun o ho => by cases ho), (fun o ho => by cases ho), fun p => ⟨⟨Nat.zero_le _, (fun o ho => by cases ho)⟩, Nat.zero_le _, (fun o ho => by cases ho)⟩⟩, ⟨Nat.zero_le _, Nat.zero_le _⟩, Nat.zero_le _⟩
def l_Cn (x b : Nat) : n_Cx := fun R s args below Q => R = room_1 ∧ args = #[Value.ref b] ∧ s.heap.size = x ∧ Q = lw_Z below #[Value.ref b] s
theorem l_roomN {x b d : Nat} (h : d ≤ 10) : n_room (l_Cn x b) d := by
  rintro R s args below Q ⟨rfl, -⟩
  exact ⟨show d + 1 ≤ 14 by omega, show 34 * (d + 1) ≤ 546 by omega⟩
theorem n_s_sh (x : Nat) : ∀ n, n_s (n_S x) x n = n_s n_sh 0 n := by
  intro n
  induction n with
  | zero => rfl
  | succ n ih =>
    show n_s (n_S x) x n + n_sl (n_S x (x + n)) = n_s n_sh 0 n + n_sl (n_sh (0 + n))
    rw [ih, n_S_at, Nat.zero_add]
theorem n_s_all : n_s n_sh 0 422 ≤ 7302250 := by decide +kernel
section WALK
variable {l : Launch} {D : va_G} {kA : Nat → ClassId} {x b L : Nat} {xs : Nat → Int32} {ad : Nat → Nat} {nm : String}
/-- the world is complete: the layer of fixed shapes goes on -/
theorem n_switch {pc : Nat} {lv : List (Option Value)} {st : List Value} {i : o_I} {r : n_R} (hf : ∀ a, x ≤ a → a < x + 422 → n_full (n_S x) r a) (kk : OkC (g_G l D kA x b L xs ad) (mLaw nm) (l_C x b) pc lv st i (n_r r)) : NkC (g_G l D kA x b L xs ad) x 0 422 (mLaw nm) (l_Cn x b) pc lv st 422 i r := fun p e R s m args below meth c Q hC Y h0 h1 H locs ls hl hW hS => by
  obtain ⟨X, hnm, hsz, -, -, g, hL⟩ := id Y
  obtain ⟨c1, c2, c3, c4⟩ := hC
  refine va_forget (fun q hq => ?_) (kk g p e R s m args below meth c _ _ Q ⟨c1, c2, c3, ⟨by decide, ?_⟩, c4⟩ X H [] ls hl (n_o hL hW hf) ⟨hS.1, fun q h1 h2 => hS.2.1 q h1 (fun h => ?_), fun q hq => by cases hq⟩)
  · have : x ≤ q.base := hS.2.2 q hq
    omega
  · have := n_s_all
    have e : n_s (n_S x) x 422 ≤ 7302250 := by rw [n_s_sh]; exact this
    have e2 : n_s (o_S (g_G l D kA x b L xs ad)) x 422 = n_s (n_S x) x 422 := rfl
    omega
  · have h : x ≤ q := h
    omega
set_option maxRecDepth 100000 in
set_option maxHeartbeats 4000000 in
theorem law_walk (hb : b < x) (h2048 : L ≤ 2048) : NkC (g_G l D kA x b L xs ad) x 0 422 (mLaw nm) (l_Cn x b) 0 [some (.ref b), none, none, none] [] 0 (fun _ _ => 0) (fun _ _ => none) := by
  have hS : o_S (g_G l D kA x b L xs ad) = n_S x := rfl
  have hI0 : n_I (g_G l D kA x b L xs ad) x 0 (fun _ _ => 0) (fun _ _ => none) := ⟨fun _ _ _ => ⟨rfl, rfl⟩, fun _ _ => Or.inl rfl⟩
  refine nk_new 0 dL_0 wc0 w_clL_7 w_in0 w_ini0 w_df0 (by decide) (sh_k hS (by decide +kernel)) (fun _ => rfl) (fun _ => rfl) ?_
  have hI1 := hI0.le (show 0 ≤ 1 by decide)
  refine nk_dup dL_3 rfl ?_
  refine nk_init (m1 := 395) (l_roomN (d := 3) (by decide)) [] dL_4 qL_9 rfl rfl (Nat.le_of_ble_eq_true rfl) (by decide) (by decide) (nt_Caller (d := 0) (tb := ad 0) (f := fun j => .int (o_tb 0 j)) hS (fun U h => h.2.1.1) (fun U h => h.2.1.2.1) (fun U h => h.2.1.2.2) (fun U h => h.2.2.1.1) (fun U h => h.2.2.1.2.1) (fun U h => h.2.2.1.2.2.1) (fun U h => h.2.2.1.2.2.2.1) (fun U h => h.2.2.1.2.2.2.2) (fun U h => h.1.1.1) (fun U h => h.1.1.2.2 0 (by decide)) hI1) (fun j0 q0 h0 => ?_)
  obtain ⟨i0, c0⟩ := h0
  refine nk_astore_n 1 dL_7 rfl (show 1 < 4 by decide) [some (.ref b), some (.ref x), none, none] rfl ?_
  refine nk_new 10 dL_8 wc10 w_clL_10 w_in10 w_ini10 w_df10 (by decide) (sh_k hS (by decide +kernel)) (fun k => (i0.1 _ k (Nat.le_refl _)).1) (fun k => (i0.1 _ k (Nat.le_refl _)).2) ?_
  have i1 := i0.le (show 395 ≤ 396 by decide)
  refine nk_dup dL_11 rfl ?_
  refine nk_init (m1 := 422) (l_roomN (d := 1) (by decide)) [] dL_12 qL_12 rfl rfl (Nat.le_of_ble_eq_true rfl) (by decide) (by decide) (nt_Model (d := 0) (n := 396) (t := x + 395) i1 (by omega) (by omega) (sh_k hS (by decide +kernel)) (sh_k hS (by decide +kernel)) (sh_k hS (by decide +kernel)) (sh_k hS (by decide +kernel)) (sh_k hS (by decide +kernel)) (sh_k hS (by decide +kernel)) (sh_k hS (by decide +kernel)) (sh_k hS (by decide +kernel)) (sh_k hS (by decide +kernel)) (sh_k hS (by decide +kernel)) (sh_k hS (by decide +kernel)) (sh_k hS (by decide +kernel)) (sh_k hS (by decide +kernel)) (sh_k hS (by decide +kernel)) (sh_k hS (by decide +kernel)) (sh_k hS (by decide +kernel)) (sh_k hS (by decide +kernel)) (sh_k hS (by decide +kernel)) (sh_k hS (by decide +kernel)) (sh_k hS (by decide +kernel)) (sh_k hS (by decide +kernel)) (sh_k hS (by decide +kernel)) (sh_k hS (by decide +kernel)) (sh_k hS (by decide +kernel)) (sh_k hS (by decide +kernel)) (sh_k hS (by decide +kernel)) (sh_k hS (by decide +kernel))) (fun j1 q1 h1 => ?_)
  have i2 : n_I (g_G l D kA x b L xs ad) x 422 j1 q1 := h1.1
  have fr := h1.2.1
  have mm : nl_m q1 (x + 395) := nl_m_of h1.2.2.1 h1.2.2.2.1 h1.2.2.2.2.1 h1.2.2.2.2.2.1 h1.2.2.2.2.2.2.1 h1.2.2.2.2.2.2.2.1 h1.2.2.2.2.2.2.2.2.1 h1.2.2.2.2.2.2.2.2.2.1 h1.2.2.2.2.2.2.2.2.2.2.1 h1.2.2.2.2.2.2.2.2.2.2.2.1 h1.2.2.2.2.2.2.2.2.2.2.2.2.1 h1.2.2.2.2.2.2.2.2.2.2.2.2.2.1 h1.2.2.2.2.2.2.2.2.2.2.2.2.2.2.1 h1.2.2.2.2.2.2.2.2.2.2.2.2.2.2.2.1 h1.2.2.2.2.2.2.2.2.2.2.2.2.2.2.2.2.1 h1.2.2.2.2.2.2.2.2.2.2.2.2.2.2.2.2.2.1 h1.2.2.2.2.2.2.2.2.2.2.2.2.2.2.2.2.2.2.1 h1.2.2.2.2.2.2.2.2.2.2.2.2.2.2.2.2.2.2.2.1 h1.2.2.2.2.2.2.2.2.2.2.2.2.2.2.2.2.2.2.2.2.1 h1.2.2.2.2.2.2.2.2.2.2.2.2.2.2.2.2.2.2.2.2.2.1 h1.2.2.2.2.2.2.2.2.2.2.2.2.2.2.2.2.2.2.2.2.2.2.1 h1.2.2.2.2.2.2.2.2.2.2.2.2.2.2.2.2.2.2.2.2.2.2.2.1 h1.2.2.2.2.2.2.2.2.2.2.2.2.2.2.2.2.2.2.2.2.2.2.2.2.1 h1.2.2.2.2.2.2.2.2.2.2.2.2.2.2.2.2.2.2.2.2.2.2.2.2.2.1 h1.2.2.2.2.2.2.2.2.2.2.2.2.2.2.2.2.2.2.2.2.2.2.2.2.2.2.1 h1.2.2.2.2.2.2.2.2.2.2.2.2.2.2.2.2.2.2.2.2.2.2.2.2.2.2.2
  have cc : nl_cl q1 x := by
    obtain ⟨⟨f0, f1, f2, f3, f4, f5, f6, f7, f8, f9⟩, ⟨t1, t2, t3, t4⟩, ⟨a1, a2⟩, hpi, ⟨k1, k2, k3⟩, tb, s1, s2⟩ := c0
    have e : ∀ a k, a < x + 395 → q1 a k = q0 a k := fun a k ha => fr a k (by omega)
    refine ⟨⟨?_, ?_, ?_, ?_, ?_, ?_, ?_, ?_, ?_, ?_⟩, ⟨?_, ?_, ?_, ?_⟩, ⟨?_, fun z hz => ?_⟩, nl_pi_e hpi (fun a k h1 h2 => e _ _ (by omega)), ⟨?_, ?_, ?_⟩, ?_, nl_sm_e s1 (fun a k h1 h2 => e _ _ (by omega)), nl_sm_e s2 (fun a k h1 h2 => e _ _ (by omega))⟩
    all_goals rw [e _ _ (by omega)]
    · exact f0
    · exact f1
    · exact f2
    · exact f3
    · exact f4
    · exact f5
    · exact f6
    · exact f7
    · exact f8
    · exact f9
    · exact t1
    · exact t2
    · exact t3
    · exact t4
    · exact a1
    · exact a2 z hz
    · exact k1
    · exact k2
    · exact k3
    · exact tb
  refine nk_astore_n 2 dL_15 rfl (show 2 < 4 by decide) [some (.ref b), some (.ref x), some (.ref (x + 395)), none] rfl ?_
  refine nk_iconst 0 dL_16 (by decide) ?_
  refine nk_istore_n 3 dL_17 rfl (show 3 < 4 by decide) [some (.ref b), some (.ref x), some (.ref (x + 395)), some (.int (nI (4 * 0)))] rfl ?_
  exact n_switch (g_full cc mm) (law_loop hb h2048 513 0 j1 (n_r q1) (by omega) (by omega) (lw_0 i2 cc mm))
end WALK
/-- from the entry, for every script of at most 2048 ints, the law comes to its end with true -/
theorem whole_start {p : Program} {e : Env} {s : State} {m : MethodId} {below : List Frame} {meth : Method} {c : Code} (l : Launch) {b L : Nat} {xs : Nat → Int32} (hL : L ≤ 2048) (C0 : lw_At p s m meth c b L xs) : W p l e room_1 s m #[Value.ref b] below meth c s.heap [] 0 0 (lw_Z below #[Value.ref b] s) (entryFrame m ([Value.ref b] : List Value).toArray 4) := by
  obtain ⟨hx, hb, hr, hml, hown, hts, hX, hbl, hlk, hgv⟩ := C0
  have hw : ∀ w ∈ o_wt, w.before #[Value.ref b] s = true := fun w h => hts w (List.mem_filter.mp h).1
  obtain ⟨ad, hE⟩ := g_start hts hX hbl hgv
  obtain ⟨D, kA, hK⟩ := g_known hw hE.2.1.1 hE.2.1.2.1 hE.2.1.2.2
  have X : o_X (g_G l D kA s.heap.size b L xs ad) (mLaw meth.name) p s m #[Value.ref b] meth c := ⟨hx, hb, hml, hr, hlk, hown, hw, hK, hE⟩
  have hns : n_s (n_S s.heap.size) s.heap.size 422 ≤ 7302250 := by
    rw [n_s_sh]
    exact n_s_all
  have Y : n_Y (g_G l D kA s.heap.size b L xs ad) s.heap.size 0 422 (mLaw meth.name) p room_1 s m #[Value.ref b] meth c := ⟨X, rfl, rfl, ⟨show 422 ≤ 600000 by decide, Nat.le_trans (Nat.sub_le _ _) hns⟩, Nat.le_refl _, g_ok, rfl⟩
  have hh := lv_entry [Value.ref b] (n := 4) (Nat.le_of_ble_eq_true rfl)
  rw [lg_entry_eq]
  have hlc : o_lc ((lg_sl [Value.ref b] ++ List.replicate (4 - (lg_sl [Value.ref b]).length) Slot.unset).toArray) 4 [some (.ref b), none, none, none] := by
    refine ⟨hh.1, hh.2.1, fun k v hk => ?_⟩
    match k, hk with
    | 0, hk =>
      cases hk
      exact ⟨rfl, rfl⟩
    | 1, hk => cases hk
    | 2, hk => cases hk
    | 3, hk => cases hk
    | k + 4, hk => cases hk
  have := law_walk (l := l) (D := D) (kA := kA) (xs := xs) (ad := ad) (nm := meth.name) hbl hL p e room_1 s m #[Value.ref b] below meth c (lw_Z below #[Value.ref b] s) ⟨rfl, rfl, rfl, rfl⟩ Y (Nat.le_refl _) (Nat.zero_le _) s.heap [] _ hlc (fun k q hq => by cases hq) va_S.rf
  exact this

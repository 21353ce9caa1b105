/-! CALL BY CALL: the class at x and the reference behind it at x + 395 answer alike -/
def lw_T (i : o_I) (x n0 n1 : Nat) (f0 f1 : Nat → Int32) : Prop := tx_S i x n0 n1 f0 f1 ∧ mt_S i (x + 395) n0 n1 f0 f1 ∧ (∀ q, q < n0 → tx_al (f0 q)) ∧ ∀ q, q < n1 → tx_al (f1 q)
def lw_D (i : o_I) (x sm : Nat) : Prop := ∃ (R len : Nat) (PP : Nat → pl_Q) (TT : Nat → List Nat) (OB OK : mo_O) (T : List Nat), sh_C i x sm R len PP TT OB OK T ∧ sh_M i (x + 395) R PP TT OB OK T ∧ sh_P R len TT OB OK T
/-- what holds between two calls -/
def lw_I (G : o_G) (x : Nat) (i : o_I) (r : o_R) : Prop := ∃ sm dr, ly_cl G r x sm dr ∧ ly_m G r (x + 395) ∧ (∃ n0 n1 f0 f1, lw_T i x n0 n1 f0 f1) ∧ lw_D i x sm
theorem lw_T_same {i j : o_I} {x n0 n1 : Nat} {f0 f1 : Nat → Int32} (h : lw_T i x n0 n1 f0 f1) (e : ∀ a k, (x + 1 ≤ a ∧ a ≤ x + 4) ∨ a = x + 396 ∨ a = x + 397 → j a k = i a k) : lw_T j x n0 n1 f0 f1 := by
  obtain ⟨⟨⟨a1, a2, a3⟩, b1, b2, b3⟩, ⟨⟨c1, c2, c3⟩, d1, d2, d3⟩, h3, h4⟩ := h
  exact ⟨⟨⟨by rw [e _ _ (by omega)]; exact a1, a2, fun k hk => by rw [e _ _ (by omega)]; exact a3 k hk⟩, by rw [e _ _ (by omega)]; exact b1, b2, fun k hk => by rw [e _ _ (by omega)]; exact b3 k hk⟩, ⟨⟨by rw [e _ _ (by omega)]; exact c1, c2, fun k hk => by rw [e _ _ (by omega)]; exact c3 k hk⟩, by rw [e _ _ (by omega)]; exact d1, d2, fun k hk => by rw [e _ _ (by omega)]; exact d3 k hk⟩, h3, h4⟩
theorem sh_C_same {i j : o_I} {x sm R len : Nat} {PP : Nat → pl_Q} {TT : Nat → List Nat} {OB OK : mo_O} {T : List Nat} (h : sh_C i x sm R len PP TT OB OK T) (hR : R ≤ 8) (e : ∀ a k, (x + 26 ≤ a ∧ a < x + 323) ∨ (sm ≤ a ∧ a < sm + 36) → j a k = i a k) : sh_C j x sm R len PP TT OB OK T := by
  obtain ⟨h1, h2, h3, h4, h5⟩ := h
  exact ⟨by rw [e _ _ (by omega)]; exact h1, fun q hq => ⟨pc_same (h2 q hq).1 (fun z => e _ _ (by omega)), sc_same (h2 q hq).2 (fun z => e _ _ (by omega)) (fun z => e _ _ (by omega))⟩, by rw [e _ _ (by omega)]; exact h3, fun p hp => ⟨st_same (h4 p hp).1 (fun a k ha => e _ _ (by omega)), st_same (h4 p hp).2 (fun a k ha => e _ _ (by omega))⟩, by rw [e _ _ (by omega)]; exact h5.1, fun k c hk => by rw [e _ _ (by omega)]; exact h5.2 k c hk⟩
theorem ms_D_same {i j : o_I} {y : Nat} {OB OK : mo_O} (h : ms_D i y OB OK) (e : ∀ a k, (a = y ∧ k < 28) ∨ (y + 3 ≤ a ∧ a ≤ y + 23) → j a k = i a k) : ms_D j y OB OK :=
  ⟨⟨by rw [e _ _ (by omega)]; exact h.1.1, fun k o ho => by rw [e _ _ (by omega), e _ _ (by omega), e _ _ (by omega)]; exact h.1.2 k o ho⟩, by rw [e _ _ (by omega)]; exact h.2.1, fun k o ho => by rw [e _ _ (by omega), e _ _ (by omega), e _ _ (by omega)]; exact h.2.2 k o ho⟩
theorem sh_M_same {i j : o_I} {y R : Nat} {PP : Nat → pl_Q} {TT : Nat → List Nat} {OB OK : mo_O} {T : List Nat} (h : sh_M i y R PP TT OB OK T) (hR : R ≤ 8) (hT : ∀ q, q < R → (TT q).length ≤ 19) (e : ∀ a k, (a = y ∧ (k < 28 ∨ k = 37)) ∨ (y + 3 ≤ a ∧ a ≤ y + 23) → j a k = i a k) : sh_M j y R PP TT OB OK T := by
  obtain ⟨h1, h2, h3, h4⟩ := h
  refine ⟨by rw [e _ _ (by omega)]; exact h1, fun q hq => ⟨pm_same (h2 q hq).1 (fun a _ _ => e _ _ (by omega)), mt_same (h2 q hq).2 (by have := hT q hq; omega) (e _ _ (by omega)) (fun z _ _ => e _ _ (by omega))⟩, ms_D_same h3 (fun a k ha => e _ _ (by omega)), ?_⟩
  rcases h4 with ⟨g1, g2⟩ | ⟨g1, len, OB2, OK2, nm, f, g2, g3, g4, g5, g6⟩
  · exact Or.inl ⟨by rw [e _ _ (by omega)]; exact g1, g2⟩
  · refine Or.inr ⟨by rw [e _ _ (by omega)]; exact g1, len, OB2, OK2, nm, f, ms_D_same g2 (fun a k ha => e _ _ (by omega)), g3, ?_, g5, g6⟩
    obtain ⟨⟨u1, u2, u3⟩, v1, v2, v3⟩ := g4
    exact ⟨⟨by rw [e _ _ (by omega)]; exact u1, u2, fun k c hk => by rw [e _ _ (by omega)]; exact u3 k c hk⟩, by rw [e _ _ (by omega)]; exact v1, v2, fun p hp => by rw [e _ _ (by omega)]; exact v3 p hp⟩
theorem lw_D_same {i j : o_I} {x sm : Nat} (h : lw_D i x sm) (e1 : ∀ a k, (x + 26 ≤ a ∧ a < x + 323) ∨ (sm ≤ a ∧ a < sm + 36) → j a k = i a k) (e2 : ∀ a k, (a = x + 395 ∧ (k < 28 ∨ k = 37)) ∨ (x + 398 ≤ a ∧ a ≤ x + 418) → j a k = i a k) : lw_D j x sm := by
  obtain ⟨R, len, PP, TT, OB, OK, T, hC, hM, hP⟩ := h
  exact ⟨R, len, PP, TT, OB, OK, T, sh_C_same hC hP.1 e1, sh_M_same hM hP.1 hP.2.1 (fun a k ha => e2 a k (by omega)), hP⟩
theorem tx_put_al {f : Nat → Int32} {u m cap : Nat} {w n : Int32} (h : ∀ q, q < u → tx_al (f q)) (hok : tx_ok w n u cap) (hn : n = nI m) (h4 : m ≤ 4) : ∀ q, q < u + m → tx_al (tx_put f u m w q) := by
  obtain ⟨m0, e0, -, k4, -, hk⟩ := hok
  have : m = m0 := (nI_eq (by omega) (by omega)).mp (hn.symm.trans e0)
  subst this
  intro q hq
  unfold tx_put
  by_cases hlt : q < u
  · rw [if_pos hlt]
    exact h q hlt
  · rw [if_neg hlt]
    exact hk _ (by omega)
section PAIRS
variable {G : o_G} {x : Nat} {i : o_I} {r : o_R}
theorem L_put {t w n : Int32} (h : lw_I G x i r) : SpI G 9 mX0_put [.ref x, .int t, .int w, .int n] (fun v j => SpI G 9 mX10_put [.ref (x + 395), .int t, .int w, .int n] (fun v' j' => v' = v ∧ lw_I G x j' r) j r) i r := by
  obtain ⟨sm, dr, hL, hm, ⟨n0, n1, f0, f1, ht, hmt, ha0, ha1⟩, hD⟩ := h
  have hpos := hL.2.2.2.2.2.2.2
  refine c_put hL.1 ht (fun a b => m_put hm.tx hmt (fun _ _ => ⟨rfl, sm, dr, hL, hm, ⟨n0, n1, f0, f1, ht, hmt, ha0, ha1⟩, hD⟩) (fun m j e _ _ ok _ _ => absurd ⟨e, ok⟩ a) (fun m j e _ _ ok _ _ => absurd ⟨e, ok⟩ b)) (fun m j e0 en h4 ok S F => ?_) (fun m j e0 en h4 ok S F => ?_)
  · have hmt2 : mt_S j (x + 395) n0 n1 f0 f1 := by
      obtain ⟨⟨c1, c2, c3⟩, d1, d2, d3⟩ := hmt
      exact ⟨⟨by rw [F _ _ (by omega) (by omega)]; exact c1, c2, fun k hk => by rw [F _ _ (by omega) (by omega)]; exact c3 k hk⟩, by rw [F _ _ (by omega) (by omega)]; exact d1, d2, fun k hk => by rw [F _ _ (by omega) (by omega)]; exact d3 k hk⟩
    refine m_put hm.tx hmt2 (fun a _ => absurd ⟨e0, ok⟩ a) (fun m2 j2 _ en2 h42 _ S2 F2 => ⟨rfl, sm, dr, hL, hm, ⟨n0 + m, n1, tx_put f0 n0 m w, f1, ?_, ?_, tx_put_al ha0 ok en h4, ha1⟩, ?_⟩) (fun m2 j2 e2 => by rw [e0] at e2; exact absurd e2 (by decide))
    · obtain ⟨⟨c1, c2, c3⟩, d1, d2, d3⟩ := S
      exact ⟨⟨by rw [F2 _ _ (by omega) (by omega)]; exact c1, c2, fun k hk => by rw [F2 _ _ (by omega) (by omega)]; exact c3 k hk⟩, by rw [F2 _ _ (by omega) (by omega)]; exact d1, d2, fun k hk => by rw [F2 _ _ (by omega) (by omega)]; exact d3 k hk⟩
    · have : m2 = m := (nI_eq (by omega) (by omega)).mp (en2.symm.trans en)
      subst this
      exact S2
    · exact lw_D_same hD (fun a k ha => by rw [F2 _ _ (by omega) (by omega), F _ _ (by omega) (by omega)]) (fun a k ha => by rw [F2 _ _ (by omega) (by omega), F _ _ (by omega) (by omega)])
  · have hmt2 : mt_S j (x + 395) n0 n1 f0 f1 := by
      obtain ⟨⟨c1, c2, c3⟩, d1, d2, d3⟩ := hmt
      exact ⟨⟨by rw [F _ _ (by omega) (by omega)]; exact c1, c2, fun k hk => by rw [F _ _ (by omega) (by omega)]; exact c3 k hk⟩, by rw [F _ _ (by omega) (by omega)]; exact d1, d2, fun k hk => by rw [F _ _ (by omega) (by omega)]; exact d3 k hk⟩
    refine m_put hm.tx hmt2 (fun _ b => absurd ⟨e0, ok⟩ b) (fun m2 j2 e2 => by rw [e0] at e2; exact absurd e2 (by decide)) (fun m2 j2 _ en2 h42 _ S2 F2 => ⟨rfl, sm, dr, hL, hm, ⟨n0, n1 + m, f0, tx_put f1 n1 m w, ?_, ?_, ha0, tx_put_al ha1 ok en h4⟩, ?_⟩)
    · obtain ⟨⟨c1, c2, c3⟩, d1, d2, d3⟩ := S
      exact ⟨⟨by rw [F2 _ _ (by omega) (by omega)]; exact c1, c2, fun k hk => by rw [F2 _ _ (by omega) (by omega)]; exact c3 k hk⟩, by rw [F2 _ _ (by omega) (by omega)]; exact d1, d2, fun k hk => by rw [F2 _ _ (by omega) (by omega)]; exact d3 k hk⟩
    · have : m2 = m := (nI_eq (by omega) (by omega)).mp (en2.symm.trans en)
      subst this
      exact S2
    · exact lw_D_same hD (fun a k ha => by rw [F2 _ _ (by omega) (by omega), F _ _ (by omega) (by omega)]) (fun a k ha => by rw [F2 _ _ (by omega) (by omega), F _ _ (by omega) (by omega)])
theorem L_clear {t : Int32} (h : lw_I G x i r) : SpI G 9 mX0_clear [.ref x, .int t] (fun v j => SpI G 9 mX10_clear [.ref (x + 395), .int t] (fun v' j' => v' = v ∧ lw_I G x j' r) j r) i r := by
  obtain ⟨sm, dr, hL, hm, ⟨n0, n1, f0, f1, ht, hmt, ha0, ha1⟩, hD⟩ := h
  have hpos := hL.2.2.2.2.2.2.2
  refine c_clear hL.1 (fun a b => m_clear hm.tx (fun _ _ => ⟨rfl, sm, dr, hL, hm, ⟨n0, n1, f0, f1, ht, hmt, ha0, ha1⟩, hD⟩) (fun e => absurd e a) (fun e => absurd e b)) (fun e => m_clear hm.tx (fun a _ => absurd e a) (fun _ => ⟨rfl, sm, dr, hL, hm, ⟨0, n1, f0, f1, ?_, ?_, fun q hq => absurd hq (Nat.not_lt_zero _), ha1⟩, ?_⟩) (fun e2 => by rw [e] at e2; exact absurd e2 (by decide))) (fun e => m_clear hm.tx (fun _ b => absurd e b) (fun e2 => by rw [e] at e2; exact absurd e2 (by decide)) (fun _ => ⟨rfl, sm, dr, hL, hm, ⟨n0, 0, f0, f1, ?_, ?_, ha0, fun q hq => absurd hq (Nat.not_lt_zero _)⟩, ?_⟩))
  · obtain ⟨⟨c1, c2, c3⟩, d1, d2, d3⟩ := ht
    exact ⟨⟨by rw [o_up_a (by omega), o_up_s]; rfl, Nat.zero_le _, fun k hk => absurd hk (Nat.not_lt_zero _)⟩, by rw [o_up_a (by omega), o_up_a (by omega)]; exact d1, d2, fun k hk => by rw [o_up_a (by omega), o_up_a (by omega)]; exact d3 k hk⟩
  · obtain ⟨⟨c1, c2, c3⟩, d1, d2, d3⟩ := hmt
    exact ⟨⟨by rw [o_up_s]; rfl, Nat.zero_le _, fun k hk => absurd hk (Nat.not_lt_zero _)⟩, by rw [o_up_k (by decide), o_up_a (by omega)]; exact d1, d2, fun k hk => by rw [o_up_a (by omega), o_up_a (by omega)]; exact d3 k hk⟩
  · exact lw_D_same hD (fun a k ha => by rw [o_up_a (by omega), o_up_a (by omega)]) (fun a k ha => by rw [o_up_a (by omega), o_up_a (by omega)])
  · obtain ⟨⟨c1, c2, c3⟩, d1, d2, d3⟩ := ht
    exact ⟨⟨by rw [o_up_a (by omega), o_up_a (by omega)]; exact c1, c2, fun k hk => by rw [o_up_a (by omega), o_up_a (by omega)]; exact c3 k hk⟩, by rw [o_up_a (by omega), o_up_s]; rfl, Nat.zero_le _, fun k hk => absurd hk (Nat.not_lt_zero _)⟩
  · obtain ⟨⟨c1, c2, c3⟩, d1, d2, d3⟩ := hmt
    exact ⟨⟨by rw [o_up_k (by decide), o_up_a (by omega)]; exact c1, c2, fun k hk => by rw [o_up_a (by omega), o_up_a (by omega)]; exact c3 k hk⟩, by rw [o_up_s]; rfl, Nat.zero_le _, fun k hk => absurd hk (Nat.not_lt_zero _)⟩
  · exact lw_D_same hD (fun a k ha => by rw [o_up_a (by omega), o_up_a (by omega)]) (fun a k ha => by rw [o_up_a (by omega), o_up_a (by omega)])
theorem L_size {t : Int32} (h : lw_I G x i r) : SpI G 9 mX0_size [.ref x, .int t] (fun v j => SpI G 9 mX10_size [.ref (x + 395), .int t] (fun v' j' => v' = v ∧ lw_I G x j' r) j r) i r := by
  have h' := h
  obtain ⟨sm, dr, hL, hm, ⟨n0, n1, f0, f1, ht, hmt, ha0, ha1⟩, hD⟩ := h
  refine c_size hL.1 (fun a b => m_size hm.tx (fun _ _ => ⟨rfl, h'⟩) (fun e => absurd e a) (fun e => absurd e b)) (fun e => m_size hm.tx (fun a _ => absurd e a) (fun _ => ⟨?_, h'⟩) (fun e2 => by rw [e] at e2; exact absurd e2 (by decide))) (fun e => m_size hm.tx (fun _ b => absurd e b) (fun e2 => by rw [e] at e2; exact absurd e2 (by decide)) (fun _ => ⟨?_, h'⟩))
  · rw [hmt.1.1, ht.1.1]
  · rw [hmt.2.1, ht.2.1]
theorem L_reads (h : lw_I G x i r) : SpI G 9 mX0_reads [.ref x] (fun v j => SpI G 9 mX10_reads [.ref (x + 395)] (fun v' j' => v' = v ∧ lw_I G x j' r) j r) i r := by
  have h' := h
  obtain ⟨sm, dr, hL, hm, -, R, len, PP, TT, OB, OK, T, hC, hM, hP⟩ := h
  exact c_reads hL.2.2.2.2.1 hC.1 (m_readsN hm hM.1 ⟨rfl, h'⟩)
theorem L_place {v1 v2 : Int32} (h : lw_I G x i r) : SpI G 9 mX0_place [.ref x, .int v1, .int v2] (fun v j => SpI G 9 mX10_place [.ref (x + 395), .int v1, .int v2] (fun v' j' => v' = v ∧ lw_I G x j' r) j r) i r := by
  have h' := h
  obtain ⟨sm, dr, hL, hm, -, R, len, PP, TT, OB, OK, T, hC, hM, hP⟩ := h
  exact c_place hL.2.2.2.2.1 hC.1 hP.1 (fun q hq => (hC.2.1 q hq).1) (m_placeN hm hM.1 hP.1 (fun q hq => (hM.2.1 q hq).1) ⟨rfl, h'⟩)
theorem L_step {v1 v2 : Int32} (h : lw_I G x i r) : SpI G 9 mX0_step [.ref x, .int v1, .int v2] (fun v j => SpI G 9 mX10_step [.ref (x + 395), .int v1, .int v2] (fun v' j' => v' = v ∧ lw_I G x j' r) j r) i r := by
  have h' := h
  obtain ⟨sm, dr, hL, hm, -, R, len, PP, TT, OB, OK, T, hC, hM, hP⟩ := h
  exact c_stepX hL.2.2.2.2.1 hC.1 hP.1 (fun q hq => ⟨(hC.2.1 q hq).2, hP.2.1 q hq⟩) (m_stepN hm hM.1 hP.1 (fun q hq => ⟨(hM.2.1 q hq).2, hP.2.1 q hq⟩) ⟨rfl, h'⟩)
theorem L_seen {v1 v2 : Int32} (h : lw_I G x i r) : SpI G 9 mX0_seen [.ref x, .int v1, .int v2] (fun v j => SpI G 9 mX10_seen [.ref (x + 395), .int v1, .int v2] (fun v' j' => v' = v ∧ lw_I G x j' r) j r) i r := by
  have h' := h
  obtain ⟨sm, dr, hL, hm, -, R, len, PP, TT, OB, OK, T, hC, hM, hP⟩ := h
  exact c_seen hL.2.2.2.2.1 hC.2.2.2.1 hP.2.2.1 hC.2.2.1 (m_seen hm hM.2.2.1 hP.2.2.2.1.1 ⟨rfl, h'⟩)
theorem L_links {v1 v2 : Int32} (h : lw_I G x i r) : SpI G 9 mX0_links [.ref x, .int v1, .int v2] (fun v j => SpI G 9 mX10_links [.ref (x + 395), .int v1, .int v2] (fun v' j' => v' = v ∧ lw_I G x j' r) j r) i r := by
  have h' := h
  obtain ⟨sm, dr, hL, hm, -, R, len, PP, TT, OB, OK, T, hC, hM, hP⟩ := h
  exact c_links hL.2.2.2.2.1 hC.2.2.2.1 hP.2.2.1 hC.2.2.1 (m_links2 hm hM.2.2.1 hP.2.2.2.1.2 (fun o ho => (hP.2.2.1.2.2.1 o ho).2) ⟨rfl, h'⟩)
theorem lw_ml {j : o_I} (h : lw_I G x i r) (F : ml_F (x + 395) i j) : lw_I G x j r := by
  obtain ⟨sm, dr, hL, hm, ⟨n0, n1, f0, f1, hT⟩, hD⟩ := h
  have hpos := hL.2.2.2.2.2.2.2
  exact ⟨sm, dr, hL, hm, ⟨n0, n1, f0, f1, lw_T_same hT (fun a k ha => F _ _ (by omega) (by omega))⟩, lw_D_same hD (fun a k ha => F _ _ (by omega) (by omega)) (fun a k ha => F _ _ (by omega) (by omega))⟩
theorem L_length (h : lw_I G x i r) : SpI G 9 mX0_length [.ref x] (fun v j => SpI G 9 mX10_length [.ref (x + 395)] (fun v' j' => v' = v ∧ lw_I G x j' r) j r) i r := by
  have h' := h
  obtain ⟨sm, dr, hL, hm, -, R, len, PP, TT, OB, OK, T, hC, hM, hP⟩ := h
  exact c_length hL.2.2.2.2.1 hC.2.2.2.2 (m_length hm hM.2.2.2 (fun j F => ⟨rfl, lw_ml h' F⟩))
theorem L_letter {v1 : Int32} (h : lw_I G x i r) : SpI G 9 mX0_letter [.ref x, .int v1] (fun v j => SpI G 9 mX10_letter [.ref (x + 395), .int v1] (fun v' j' => v' = v ∧ lw_I G x j' r) j r) i r := by
  have h' := h
  obtain ⟨sm, dr, hL, hm, -, R, len, PP, TT, OB, OK, T, hC, hM, hP⟩ := h
  exact c_letter hL.2.2.2.2.1 hC.2.2.2.2 (by have := hP.2.2.2.2; omega) (m_letter hm hM.2.2.2 (fun j F => ⟨rfl, lw_ml h' F⟩))
theorem ly_m_r {r2 : o_R} {y : Nat} (h : ly_m G r y) (e : ∀ k, r2 y k = r y k) : ly_m G r2 y := ⟨h.1, fun k o t n e1 e2 => ⟨by rw [e]; exact (h.2 k o t n e1 e2).1, (h.2 k o t n e1 e2).2⟩⟩
theorem L_call {v1 : Int32} (hc : o_cst G) (h : lw_I G x i r) : SpIr G 9 mX0_call [.ref x, .int v1] (fun v j q => SpI G 9 mX10_call [.ref (x + 395), .int v1] (fun v' j' => v' = v ∧ lw_I G x j' q) j q) i r := by
  have h' := h
  obtain ⟨sm, dr, hL, hm, ⟨n0, n1, f0, f1, hT⟩, hD⟩ := h
  have hT' := hT
  obtain ⟨ht, hmt, ha0, ha1⟩ := hT
  have hpos := hL.2.2.2.2.2.2.2
  have tp : ∀ {t n : Nat} {f : Nat → Int32}, i t 1 = nI n → (∀ k, k < n → i (t + 1) k = f k) → (∀ q, q < n → tx_al (f q)) → tp_S i t n (px_lk f n) := fun {t n f} e1 e2 e3 => ⟨e1, fun k hk => by unfold px_lk; rw [if_pos hk]; exact ⟨e2 k hk, e3 k hk⟩, fun k hk => px_lk_0 hk⟩
  have nn : ∀ {k k2 : Nat}, v1 = nI k → v1 = nI k2 → k ≤ 3 → k2 ≤ 3 → k2 = k := fun {k k2} e1 e2 h1 h2 => (nI_eq (by omega) (by omega)).mp (e2.symm.trans e1)
  have no : ∀ {k : Nat}, v1 = nI k → k ≤ 3 → ¬ (v1 < 0 ∨ ¬ v1 ≤ 3) := fun {k} e1 h1 q => by
    rw [e1] at q
    rcases q with q | q
    · exact nI_pos (by omega) q
    · exact q ((nI_leI (b := 3) (by omega) (by decide)).mpr h1)
  refine c_call (d := 0) (x := x) (sm := sm) (dr := dr) (n0 := n0) (n1 := n1) (lk0 := px_lk f0 n0) (lk1 := px_lk f1 n1) hc hL (tp ht.1.1 ht.1.2.2 ha0) (tp ht.2.1 ht.2.2.2 ha1) ht.1.2.1 ht.2.2.1 (fun hN => ?_) (fun k e j ek hk he F => ?_) (fun k e j ek hk he he2 F => ?_) (fun k j r2 ek hk he he2 hL2 e2 hC F => ?_)
  · exact m_call (d := 4) hm hmt ha0 ha1 (fun _ => ⟨rfl, h'⟩) (fun k e ek hk => absurd hN (no ek hk)) (fun k e ek hk => absurd hN (no ek hk)) (fun k j ek hk => absurd hN (no ek hk))
  · have hI : lw_I G x j r := ⟨sm, dr, hL, hm, ⟨n0, n1, f0, f1, lw_T_same hT' (fun a k ha => F _ _ (by omega) (by omega) (by omega))⟩, lw_D_same hD (fun a k ha => F _ _ (by omega) (by omega) (by omega)) (fun a k ha => F _ _ (by omega) (by omega) (by omega))⟩
    exact m_call (d := 4) hm (lw_T_same hT' (fun a k ha => F _ _ (by omega) (by omega) (by omega))).2.1 ha0 ha1 (fun q => absurd q (no ek hk)) (fun k2 e2 _ _ he2 => by rw [he] at he2; cases he2; exact ⟨rfl, hI⟩) (fun k2 e2 _ _ he2 => by rw [he] at he2; cases he2) (fun k2 j2 _ _ he2 => by rw [he] at he2; cases he2)
  · have hI : lw_I G x j r := ⟨sm, dr, hL, hm, ⟨n0, n1, f0, f1, lw_T_same hT' (fun a k ha => F _ _ (by omega) (by omega) (by omega))⟩, lw_D_same hD (fun a k ha => F _ _ (by omega) (by omega) (by omega)) (fun a k ha => F _ _ (by omega) (by omega) (by omega))⟩
    exact m_call (d := 4) hm (lw_T_same hT' (fun a k ha => F _ _ (by omega) (by omega) (by omega))).2.1 ha0 ha1 (fun q => absurd q (no ek hk)) (fun k2 e2 _ _ he3 => by rw [he] at he3; cases he3) (fun k2 e3 _ _ _ he3 => by rw [he2] at he3; cases he3; exact ⟨rfl, hI⟩) (fun k2 j2 _ _ _ he3 => by rw [he2] at he3; cases he3)
  · have hm2 : ly_m G r2 (x + 395) := ly_m_r hm (fun k => e2 _ _ (by omega))
    have hTj := lw_T_same hT' (fun a k ha => F a k (by omega))
    refine m_call (d := 4) hm2 hTj.2.1 ha0 ha1 (fun q => absurd q (no ek hk)) (fun k2 e2 _ _ he3 => by rw [he] at he3; cases he3) (fun k2 e3 _ _ _ he3 => by rw [he2] at he3; cases he3) (fun k2 j2 ek2 hk2 _ _ hM F2 => ?_)
    have : k2 = k := nn ek ek2 hk hk2
    subst this
    exact ⟨rfl, dr, sm, hL2, hm2, ⟨n0, n1, f0, f1, lw_T_same hTj (fun a k ha => F2 _ _ (by omega))⟩, cx_R (px_lk f1 n1) n1, cx_len (px_lk f0 n0) n0, cx_P k2 (px_lk f0 n0) n0 (px_lk f1 n1) n1, cx_T k2 (px_lk f0 n0) n0 (px_lk f1 n1) n1, cx_OB k2 (px_lk f0 n0) n0 (px_lk f1 n1) n1, cx_OK k2 (px_lk f0 n0) n0 (px_lk f1 n1) n1, cx_TX k2 (px_lk f0 n0) n0 (px_lk f1 n1) n1, sh_C_same hC (cx_R8 _ _) (fun a k ha => F2 _ _ (by omega)), hM, cx_shP hk he he2⟩
end PAIRS

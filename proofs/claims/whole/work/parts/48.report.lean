/-! ReadCaller.reportSites; the reference's count of sites -/
def jd_b1 (b : Bool) : Nat := if b = true then 1 else 0
def tw_cnt (len : Nat) (f : Nat → Nat) (SB SK : Nat → jd_s) : Nat → Nat
  | 0 => 0
  | n + 1 => tw_cnt len f SB SK n + jd_b1 (jd_yes (SB n) (f n)) + (if n + 1 < len then jd_b1 (jd_yes (SK n) 0) else 0)
theorem tw_cnt_le (len : Nat) (f : Nat → Nat) (SB SK : Nat → jd_s) : ∀ n, tw_cnt len f SB SK n ≤ 2 * n := by
  intro n
  induction n with
  | zero => exact Nat.le_refl _
  | succ n ih =>
    have h1 : ∀ b, jd_b1 b ≤ 1 := fun b => by unfold jd_b1; split <;> omega
    have h2 := h1 (jd_yes (SB n) (f n))
    have h3 := h1 (jd_yes (SK n) 0)
    show tw_cnt len f SB SK n + jd_b1 (jd_yes (SB n) (f n)) + (if n + 1 < len then jd_b1 (jd_yes (SK n) 0) else 0) ≤ 2 * (n + 1)
    split <;> omega
theorem jd_yes_nil : jd_yes [] 0 = false := by decide
theorem sw_last {len p : Nat} {OB OK : mo_O} (h : sw_ok len OB OK) (hp : len ≤ p + 1) : mo_at p OK = [] := by
  match e : mo_at p OK with
  | [] => rfl
  | o :: u =>
    have : (p, o) ∈ OK := mo_at_mem (by rw [e]; exact List.mem_cons_self)
    have := (h.2.2.2.1.2 _ this).1
    have : p + 1 < len := this
    omega
/-- the pile, by what was seen -/
def pi_O (i : o_I) (pi : Nat) (OB OK : mo_O) : Prop := ∀ p, p < 48 → st_S i (pi + 3 + 6 * p) (jd_l (mo_at p OB)) ∧ st_S i (pi + 6 + 6 * p) (jd_l (mo_at p OK))
def ly_x (G : o_G) (r : o_R) (x pi jd tb sm : Nat) : Prop := o_O G x 0 ∧ r x 5 = pi ∧ ly_pi G r pi ∧ r x 6 = jd ∧ ly_jd G r jd ∧ r x 7 = tb ∧ ly_tb G r tb ∧ r x 8 = sm ∧ ly_sm G r sm ∧ pi + 291 ≤ jd ∧ jd + 4 ≤ tb ∧ tb + 2 ≤ sm
def rp_F (jd tb : Nat) (i j : o_I) : Prop := ∀ a k, (a < jd ∨ tb + 1 < a) → j a k = i a k
theorem c_reportSites {G : o_G} {d : Nat} {i : o_I} {r : o_R} {post : Int32 → o_I → Prop} {x pi jd tb sm len : Nat} {OB OK : mo_O} {nm : List Nat} {f : Nat → Nat} (hc : o_cst G) (hx : ly_x G r x pi jd tb sm) (hP : pi_O i pi OB OK) (hok : sw_ok len OB OK) (hN : sn_S i sm nm len f) (hT : (tw_h ++ tw_txt nm len f (fun p => mo_at p OB) (fun p => mo_at p OK) len).length ≤ 2220)
    (h : ∀ j, tw_S j tb (tw_h ++ tw_txt nm len f (fun p => mo_at p OB) (fun p => mo_at p OK) len) → rp_F jd tb i j → post (nI (tw_cnt len f (fun p => mo_at p OB) (fun p => mo_at p OK) len)) j) : SpI G (d + 8) mX0_reportSites [.ref x] post i r := by
  obtain ⟨hO, e5, hpi, e6, hj, e7, ht, e8, hsm, d1, d2, d3⟩ := hx
  have h48 := hok.1
  generalize hTf : tw_txt nm len f (fun p => mo_at p OB) (fun p => mo_at p OK) = TX at hT h
  generalize hCf : tw_cnt len f (fun p => mo_at p OB) (fun p => mo_at p OK) = CN at h
  have tst : ∀ p, TX (p + 1) = TX p ++ tw_at nm len f (fun p => mo_at p OB) (fun p => mo_at p OK) p := fun p => by rw [← hTf]; rfl
  have cst : ∀ p, CN (p + 1) = CN p + jd_b1 (jd_yes (mo_at p OB) (f p)) + (if p + 1 < len then jd_b1 (jd_yes (mo_at p OK) 0) else 0) := fun p => by rw [← hCf]; rfl
  have tle : ∀ p, p ≤ len → (TX p).length ≤ (TX len).length := fun p hp => by
    have := tw_txt_le nm len f (fun p => mo_at p OB) (fun p => mo_at p OK) (len - p) p
    rw [hTf, show p + (len - p) = len by omega] at this
    exact this
  rw [List.length_append] at hT
  have keepT : ∀ {i1 j1 : o_I}, rp_F jd tb i i1 → tw_F tb i1 j1 → rp_F jd tb i j1 := fun {i1 j1} a b q k hq => by rw [b q k (by omega) (by omega)]; exact a q k hq
  have keepJ : ∀ {i1 j1 : o_I}, rp_F jd tb i i1 → jg_F jd i1 j1 → rp_F jd tb i j1 := fun {i1 j1} a b q k hq => by rw [b q k (by omega)]; exact a q k hq
  have twJ : ∀ {i1 j1 : o_I} {l : List Nat}, tw_S i1 tb l → jg_F jd i1 j1 → tw_S j1 tb l := fun {i1 j1 l} a b => ⟨by rw [b _ _ (by omega)]; exact a.1, fun k c hk => by rw [b _ _ (by omega)]; exact a.2 k c hk⟩
  have snF : ∀ {j1 : o_I}, rp_F jd tb i j1 → sn_S j1 sm nm len f := fun {j1} a => ⟨⟨by rw [a _ _ (by omega)]; exact hN.1.1, hN.1.2.1, fun k c hk => by rw [a _ _ (by omega)]; exact hN.1.2.2 k c hk⟩, by rw [a _ _ (by omega)]; exact hN.2.1, hN.2.2.1, fun p hp => by rw [a _ _ (by omega)]; exact hN.2.2.2 p hp⟩
  have loop : ∀ m p j, p + m = len → tw_S j tb (tw_h ++ TX p) → rp_F jd tb i j → Ok G (d + 8) mX0_reportSites (fun v j q => q = r ∧ ∃ x, v = some (.int x) ∧ post x j) 11 [some (.ref x), some (.int (nI (CN p))), some (.int (nI p))] [] j r := by
    intro m
    induction m with
    | zero =>
      intro p j hp S F
      have hp : p = len := by omega
      subst hp
      refine sX0_reportSites_11 x _ _ ?_
      rw [e8]
      exact ⟨hO, hsm.1, fun _ => o_ri (h j S F), fun q => absurd (by rw [(snF F).2.1]; exact nI_le (by omega) (by omega)) q⟩
    | succ m ih =>
      intro p j hp S F
      have hpl : p < len := by omega
      have hp48 : p < 48 := by omega
      obtain ⟨fp, ep⟩ := (snF F).2.2.2 p hpl
      obtain ⟨s0, s1, t0, t1⟩ := hpi.2.2.2.2.2 p hp48
      have hlen := tle (p + 1) (by omega)
      rw [tst p, List.length_append] at hlen
      have jkB : jd_ok (mo_at p OB) := sw_jd (lk := 0) hok
      have jkK : jd_ok (mo_at p OK) := sw_jd (lk := 1) hok
      have at_len : (tw_at nm len f (fun p => mo_at p OB) (fun p => mo_at p OK) p).length = (tw_ln 0 nm f (mo_at p OB) p (f p)).length + (if p + 1 < len then tw_ln 1 nm f (mo_at p OK) p 0 else []).length := by
        unfold tw_at
        rw [List.length_append]
      -- the links
      have second : ∀ j2 n, n = CN p + jd_b1 (jd_yes (mo_at p OB) (f p)) → tw_S j2 tb ((tw_h ++ TX p) ++ tw_ln 0 nm f (mo_at p OB) p (f p)) → rp_F jd tb i j2 → Ok G (d + 8) mX0_reportSites (fun v j q => q = r ∧ ∃ x, v = some (.int x) ∧ post x j) 76 [some (.ref x), some (.int (nI n)), some (.int (nI p))] [] j2 r := by
        intro j2 n hn S2 F2
        have nxt : ∀ j3 v1 v2, v1 = nI (CN (p + 1)) → v2 = nI p + 1 → tw_S j3 tb (((tw_h ++ TX p) ++ tw_ln 0 nm f (mo_at p OB) p (f p)) ++ (if p + 1 < len then tw_ln 1 nm f (mo_at p OK) p 0 else [])) → rp_F jd tb i j3 → Ok G (d + 8) mX0_reportSites (fun v j q => q = r ∧ ∃ x, v = some (.int x) ∧ post x j) 11 [some (.ref x), some (.int v1), some (.int v2)] [] j3 r := by
          intro j3 v1 v2 h1 h2 S3 F3
          rw [h1, h2, nI_1]
          refine ih (p + 1) j3 (by omega) ?_ F3
          rw [tst p]
          unfold tw_at
          rw [← List.append_assoc, ← List.append_assoc]
          exact S3
        refine sX0_reportSites_76 x _ _ ?_
        rw [e5, e6, e7, e8, hpi.2.2.2.1, hpi.2.2.2.2.1.len, nI_clamp (n := p) (by omega), s1]
        refine ⟨hO, hpi.1, hpi.2.2.2.2.1.Y, vp_in_nI (by omega) (by decide), hj.1, ?_⟩
        refine c_weigh (ref := 0) hc hj t1 (by omega) (st_same (hP p hp48).2 (fun a k ha => F2 a k (by omega))) jkK (by decide) (fun j3 J3 G3 => ?_)
        obtain ⟨a1, a3⟩ := jd_al_len (mo_at p OK) 0
        have np6 := jd_np6 a1 a3
        have hco : jd_co (mo_at p OK) (jd_al (mo_at p OK) 0) < jd_np (jd_al (mo_at p OK) 0).length := jd_ch_lt _ np6.1
        refine c_differs hj J3.2.2.2.2 (by show jd_co _ _ ≤ 5; omega) ?_
        have F3 := keepJ F2 G3
        have S3 := twJ S2 G3
        by_cases hy : jd_co (mo_at p OK) (jd_al (mo_at p OK) 0) = 0
        · have hyf : jd_yes (mo_at p OK) 0 = false := by rw [jd_yes_eq]; simp [hy]
          rw [if_pos (show jd_ch _ _ = 0 from hy)]
          refine ⟨fun _ x9 e9 => nxt j3 _ x9 ?_ e9 ?_ F3, fun q => absurd rfl q⟩
          · rw [cst p, hyf, hn]
            congr 1
            unfold jd_b1
            split <;> simp
          · have : (if p + 1 < len then tw_ln 1 nm f (mo_at p OK) p 0 else []) = [] := by
              unfold tw_ln
              rw [hyf]
              simp
            rw [this, List.append_nil]
            exact S3
        · have hyt : jd_yes (mo_at p OK) 0 = true := by rw [jd_yes_eq]; simp [hy]
          have hlt : p + 1 < len := by
            rcases Nat.lt_or_ge (p + 1) len with q | q
            · exact q
            · rw [sw_last hok q, jd_yes_nil] at hyt
              cases hyt
          rw [if_neg (show ¬ jd_ch _ _ = 0 from hy)]
          refine ⟨fun q => absurd q (by decide), fun _ => ⟨ht.1, ?_⟩⟩
          have eln : tw_ln 1 nm f (mo_at p OK) p 0 = tw_link nm p f (mo_at p OK) (jd_al (mo_at p OK) 0) := by
            unfold tw_ln
            rw [if_pos hyt, tw_line_1]
          rw [if_pos hlt] at at_len
          refine c_writeLinkSite hc ht hsm d3 (snF F3) hj d2 J3 jkK a1 a3 (tw_loss_ok (by omega) (fun o ho h4 => ?_)) (fun c hcm h4 => tw_fold_mem _ 0 c hcm h4) S3 ?_ (fun j4 S4 G4 x12 e12 x13 e13 => ?_)
          · have := (hok.2.2.2.1.2 _ (mo_at_mem ho)).2.2.1 h4
            have : p + o.1 + 1 < len := this
            omega
          · rw [← eln, List.length_append, List.length_append]
            omega
          · rw [← eln] at S4
            refine nxt j4 x12 x13 ?_ e13 ?_ (keepT F3 G4)
            · rw [e12, nI_1, cst p, hyt, if_pos hlt, hn]
              rfl
            · rw [if_pos hlt]
              exact S4
      refine sX0_reportSites_11 x _ _ ?_
      rw [e5, e6, e7, e8, hpi.2.1, hpi.2.2.1.len, hsm.2.2.2.1, hsm.2.2.2.2.1.len, nI_clamp (n := p) (by omega), s0, ep]
      refine ⟨hO, hsm.1, fun q => absurd q (by rw [(snF F).2.1]; exact nI_ge hpl (by omega)), fun _ => ⟨hpi.1, hpi.2.2.1.Y, vp_in_nI (by omega) (by decide), hsm.2.2.2.2.1.Y, vp_in_nI (by omega) (by decide), hj.1, ?_⟩⟩
      refine c_weigh (ref := f p) hc hj t0 (by omega) (st_same (hP p hp48).1 (fun a k ha => F a k (by omega))) jkB (by omega) (fun j3 J3 G3 => ?_)
      obtain ⟨a1, a3⟩ := jd_al_len (mo_at p OB) (f p)
      have np6 := jd_np6 a1 a3
      have hco : jd_co (mo_at p OB) (jd_al (mo_at p OB) (f p)) < jd_np (jd_al (mo_at p OB) (f p)).length := jd_ch_lt _ np6.1
      refine c_differs hj J3.2.2.2.2 (by show jd_co _ _ ≤ 5; omega) ?_
      have F3 := keepJ F G3
      have S3 := twJ S G3
      by_cases hy : jd_co (mo_at p OB) (jd_al (mo_at p OB) (f p)) = 0
      · have hyf : jd_yes (mo_at p OB) (f p) = false := by rw [jd_yes_eq]; simp [hy]
        rw [if_pos (show jd_ch _ _ = 0 from hy)]
        refine ⟨fun _ => second j3 _ (by rw [hyf]; rfl) ?_ F3, fun q => absurd rfl q⟩
        unfold tw_ln
        rw [hyf]
        simp only [Bool.false_eq_true, if_false, List.append_nil]
        exact S3
      · have hyt : jd_yes (mo_at p OB) (f p) = true := by rw [jd_yes_eq]; simp [hy]
        rw [if_neg (show ¬ jd_ch _ _ = 0 from hy)]
        refine ⟨fun q => absurd q (by decide), fun _ => ⟨ht.1, ?_⟩⟩
        have eln : tw_ln 0 nm f (mo_at p OB) p (f p) = tw_base nm p (mo_at p OB) (jd_al (mo_at p OB) (f p)) := by
          unfold tw_ln
          rw [if_pos hyt, tw_line_0 _ _ _ _ _ (jd_al_0 _ _)]
        refine c_writeBaseSite hc ht hsm d3 (snF F3) hp48 hj d2 J3 jkB a1 a3 (fun c hcm => ?_) S3 ?_ (fun j4 S4 G4 x15 e15 => ?_)
        · rcases jd_al_mem hcm with e | ⟨o, ho, e⟩
          · rw [e]
            exact fp
          · rw [← e]
            exact (hok.2.2.1.2 _ (mo_at_mem ho)).2.1
        · rw [← eln, List.length_append]
          omega
        · rw [← eln] at S4
          rw [e15, nI_1]
          exact second j4 _ (by rw [hyt]; rfl) S4 (keepT F3 G4)
  refine sp_of 2 (by decide +kernel) (Nat.le_of_ble_eq_true rfl) rfl (sX0_reportSites_0 x ?_)
  rw [e7]
  refine ⟨hO, ht.1, c_tbegin hc ht (fun j S F => ?_)⟩
  have := loop len 0 j (by omega) (by rw [show TX 0 = [] by rw [← hTf]; rfl, List.append_nil]; exact S) (fun a k ha => F a k (by omega) (by omega))
  rw [show CN 0 = 0 by rw [← hCf]; rfl] at this
  exact this

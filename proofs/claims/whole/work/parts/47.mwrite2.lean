/-! THE REFERENCE: write, length, letter -/
/-- what was seen, in the class's numbers: bases OB, links OK -/
def sw_ok (len : Nat) (OB OK : mo_O) : Prop := len ≤ 48 ∧ 0 < len ∧ (OB.length ≤ 128 ∧ ∀ o ∈ OB, o.1 < len ∧ o.2.1 < 4 ∧ o.2.2 ≤ 93) ∧ (OK.length ≤ 128 ∧ ∀ o ∈ OK, o.1 + 1 < len ∧ lk_V o.2.1 ∧ (o.2.1 < 4 → o.1 + o.2.1 + 1 < len) ∧ o.2.2 ≤ 93) ∧ ∀ p, (mo_at p OB).length ≤ 8 ∧ (mo_at p OK).length ≤ 8
def mo_fm (lk : Nat) (O : mo_O) : mo_O := O.map (fun o => (o.1, fm lk o.2.1, o.2.2))
theorem mo_at_fm (lk p : Nat) (O : mo_O) : mo_at p (mo_fm lk O) = jd_map (fm lk) (mo_at p O) := by
  induction O with
  | nil => rfl
  | cons o O ih =>
    show mo_at p ((o.1, fm lk o.2.1, o.2.2) :: mo_fm lk O) = _
    rw [mo_at_cons, mo_at_cons, ih]
    by_cases h : o.1 = p
    · rw [if_pos h, if_pos h]
      rfl
    · rw [if_neg h, if_neg h]
def sw_O (lk : Nat) (OB OK : mo_O) : mo_O := if lk = 0 then OB else OK
theorem lk_V_le {c : Nat} (h : lk_V c) : c ≤ 127 := by unfold lk_V at h; omega
theorem sw_V {len lk p : Nat} {OB OK : mo_O} (h : sw_ok len OB OK) : ∀ o ∈ mo_at p (sw_O lk OB OK), fm_V lk o.1 := fun o ho => by
  unfold sw_O fm_V at *
  by_cases e : lk = 0
  · rw [if_pos e] at ho ⊢
    exact (h.2.2.1.2 _ (mo_at_mem ho)).2.1
  · rw [if_neg e] at ho ⊢
    exact (h.2.2.2.1.2 _ (mo_at_mem ho)).2.1
theorem sw_jd {len lk p : Nat} {OB OK : mo_O} (h : sw_ok len OB OK) : jd_ok (mo_at p (sw_O lk OB OK)) := by
  unfold sw_O
  by_cases e : lk = 0
  · rw [if_pos e]
    refine ⟨(h.2.2.2.2 p).1, fun o ho => ?_⟩
    have := h.2.2.1.2 _ (mo_at_mem ho)
    have h4 : o.1 < 4 := this.2.1
    exact ⟨by omega, this.2.2⟩
  · rw [if_neg e]
    refine ⟨(h.2.2.2.2 p).2, fun o ho => ?_⟩
    have := h.2.2.2.1.2 _ (mo_at_mem ho)
    exact ⟨lk_V_le this.2.1, this.2.2.2⟩
theorem sw_mo {len lk : Nat} {OB OK : mo_O} (h : sw_ok len OB OK) : mo_ok (mo_fm lk (sw_O lk OB OK)) := by
  have h48 := h.1
  unfold sw_O mo_fm
  by_cases e : lk = 0
  · rw [if_pos e]
    refine ⟨by rw [List.length_map]; exact h.2.2.1.1, fun q hq => ?_⟩
    obtain ⟨o, ho, rfl⟩ := List.mem_map.mp hq
    have := h.2.2.1.2 o ho
    refine ⟨by show o.1 ≤ 47; omega, ?_, this.2.2⟩
    show fm lk o.2.1 ≤ 103
    exact fm_le (by unfold fm_V; rw [if_pos e]; exact this.2.1)
  · rw [if_neg e]
    refine ⟨by rw [List.length_map]; exact h.2.2.2.1.1, fun q hq => ?_⟩
    obtain ⟨o, ho, rfl⟩ := List.mem_map.mp hq
    have := h.2.2.2.1.2 o ho
    refine ⟨by show o.1 ≤ 47; omega, ?_, this.2.2.2⟩
    show fm lk o.2.1 ≤ 103
    exact fm_le (by unfold fm_V; rw [if_neg e]; exact this.2.1)
def mv_F (y : Nat) (i j : o_I) : Prop := ∀ a k, ¬ (a = y ∧ 28 ≤ k ∧ k ≠ 37 ∧ k ≠ 39) → (a < y + 24 ∨ y + 26 < a) → j a k = i a k
theorem mv_F.trans {y : Nat} {i j q : o_I} (h : mv_F y i j) (h2 : mv_F y j q) : mv_F y i q := fun a k n m => by rw [h2 a k n m, h a k n m]
theorem mv_md {y : Nat} {i j : o_I} (h : md_F y i j) : mv_F y i j := fun a k n m => h a k (by omega) m
theorem mv_wo {y : Nat} {i j : o_I} (h : wo_F y i j) : mv_F y i j := fun a k n m => h a k (by omega)
theorem mv_mn {i j : o_I} {y : Nat} {nm : List Nat} {len : Nat} {f : Nat → Nat} (h : mn_S i y nm len f) (hF : mv_F y i j) : mn_S j y nm len f := ⟨⟨by rw [hF _ _ (by omega) (by omega)]; exact h.1.1, h.1.2.1, fun k c hk => by rw [hF _ _ (by omega) (by omega)]; exact h.1.2.2 k c hk⟩, by rw [hF _ _ (by omega) (by omega)]; exact h.2.1, h.2.2.1, fun p hp => by rw [hF _ _ (by omega) (by omega)]; exact h.2.2.2 p hp⟩
theorem mv_mo {i j : o_I} {y lk : Nat} {O : mo_O} (h : mo_D i y lk O) (hk : lk ≤ 1) (hF : mv_F y i j) : mo_D j y lk O := ⟨by rw [hF _ _ (by omega) (by omega)]; exact h.1, fun k o ho => by rw [hF _ _ (by omega) (by omega), hF _ _ (by omega) (by omega), hF _ _ (by omega) (by omega)]; exact h.2 k o ho⟩
/-- all that the reference holds of what was seen -/
def ms_D (i : o_I) (y : Nat) (OB OK : mo_O) : Prop := mo_D i y 0 (mo_fm 0 OB) ∧ mo_D i y 1 (mo_fm 1 OK)
/-- siteThere, in the class's numbers -/
theorem m_there {G : o_G} {d : Nat} {i : o_I} {r : o_R} {post : Int32 → o_I → Prop} {y lk p len : Nat} {OB OK : mo_O} {nm : List Nat} {f : Nat → Nat} (hm : ly_m G r y) (hk1 : lk ≤ 1) (hD : ms_D i y OB OK) (hok : sw_ok len OB OK) (hN : mn_S i y nm len f) (hp : p < len)
    (h0 : lk = 1 → len ≤ p + 1 → post 0 i)
    (h : (lk = 1 → p + 1 < len) → ∀ j, md_L j y lk p (mo_at p (sw_O lk OB OK)) (jd_al (mo_at p (sw_O lk OB OK)) (if lk = 0 then f p else 0)) → md_F y i j → post (if jd_yes (mo_at p (sw_O lk OB OK)) (if lk = 0 then f p else 0) = true then 1 else 0) j) : SpI G (d + 4) mX10_siteThere [.ref y, .int (nI lk), .int (nI p)] post i r := by
  obtain ⟨fp, ep⟩ := hN.2.2.2 p hp
  have hrV : fm_V lk (if lk = 0 then f p else 0) := by
    unfold fm_V
    by_cases e : lk = 0
    · rw [if_pos e, if_pos e]
      exact fp
    · rw [if_neg e, if_neg e]
      exact Or.inl (by decide)
  have hfr : fm lk (if lk = 0 then f p else 0) = if lk = 0 then f p else 0 := by
    by_cases e : lk = 0
    · rw [if_pos e]
      unfold fm
      rw [if_pos e]
    · rw [if_neg e]
      exact fm_0 lk
  have hsV := sw_V (lk := lk) (p := p) hok
  have hDl : mo_D i y lk (mo_fm lk (sw_O lk OB OK)) := by
    rcases (show lk = 0 ∨ lk = 1 by omega) with rfl | rfl
    · exact hD.1
    · exact hD.2
  refine m_siteThere (ref := if lk = 0 then f p else 0) hm hk1 hDl (sw_mo hok) hN.2.1 hok.2.1 hok.1 hp (fun e => by rw [if_pos e]; exact ep) (fun e => by rw [if_neg (by omega)]) (by split <;> omega) h0 (fun hl j S F => ?_)
  rw [mo_at_fm, ← hfr] at S
  have S2 := md_S_L hsV hrV (by rw [hfr] at S ⊢; exact S)
  have := h hl j S2 F
  rw [mo_at_fm]
  have hy := jd_yes_map (fm_mono lk) hsV hrV
  rw [hfr] at hy
  rw [hy]
  exact this
/-- a line, where there is one -/
theorem m_ln {G : o_G} {d : Nat} {i : o_I} {r : o_R} {post : o_I → Prop} {y lk p len : Nat} {OB OK : mo_O} {nm l : List Nat} {f : Nat → Nat} {w : Int32} (hm : ly_m G r y) (hk1 : lk ≤ 1) (hok : sw_ok len OB OK) (hN : mn_S i y nm len f) (hp : p < len) (hl1 : lk = 1 → p + 1 < len) (hL : md_L i y lk p (mo_at p (sw_O lk OB OK)) (jd_al (mo_at p (sw_O lk OB OK)) (if lk = 0 then f p else 0))) (hyes : jd_yes (mo_at p (sw_O lk OB OK)) (if lk = 0 then f p else 0) = true) (hS : wo_S i y l w) (hl : l.length + (tw_ln lk nm f (mo_at p (sw_O lk OB OK)) p (if lk = 0 then f p else 0)).length ≤ 2220) (h : ∀ j, wo_S j y (l ++ tw_ln lk nm f (mo_at p (sw_O lk OB OK)) p (if lk = 0 then f p else 0)) w → wo_F y i j → post j) : SpV G (d + 5) mX10_outLine [.ref y] post i r := by
  obtain ⟨a1, a3⟩ := jd_al_len (mo_at p (sw_O lk OB OK)) (if lk = 0 then f p else 0)
  have fp := (hN.2.2.2 p hp).1
  unfold tw_ln at hl h
  rw [if_pos hyes] at hl h
  have hV : ∀ c ∈ jd_al (mo_at p (sw_O lk OB OK)) (if lk = 0 then f p else 0), fm_V lk c := jd_al_V (fm_mono lk) (sw_V hok) (by
    unfold fm_V
    by_cases e : lk = 0
    · rw [if_pos e, if_pos e]
      exact fp
    · rw [if_neg e, if_neg e]
      exact Or.inl (by decide))
  refine m_outLine hm hk1 hN hL (sw_jd hok) a1 a3 ?_ (fun e c hc => ?_) (fun e c hc => ?_) (fun e c hc h4 => tw_fold_mem _ 0 c hc h4) hS hl h
  · by_cases e : lk = 0
    · rw [if_pos e]
      omega
    · rw [if_neg e, if_neg e]
      refine tw_loss_ok (by omega) (fun o ho h4 => ?_)
      unfold sw_O at ho
      rw [if_neg e] at ho
      have := (hok.2.2.2.1.2 _ (mo_at_mem ho)).2.2.1 h4
      show p + o.1 + 1 ≤ len
      have : p + o.1 + 1 < len := this
      omega
  · have := hV c hc
    unfold fm_V at this
    rw [if_pos e] at this
    exact this
  · have := hV c hc
    unfold fm_V at this
    rw [if_neg (by omega)] at this
    exact this
theorem m_write {G : o_G} {d : Nat} {i : o_I} {r : o_R} {post : o_I → Prop} {y len : Nat} {OB OK : mo_O} {nm : List Nat} {f : Nat → Nat} {w : Int32} (hm : ly_m G r y) (hD : ms_D i y OB OK) (hok : sw_ok len OB OK) (hN : mn_S i y nm len f) (hcal : i y 37 = 1) (hT : (tw_h ++ tw_txt nm len f (fun p => mo_at p OB) (fun p => mo_at p OK) len).length ≤ 2220)
    (h : ∀ j, wo_S j y (tw_h ++ tw_txt nm len f (fun p => mo_at p OB) (fun p => mo_at p OK) len) w → (∀ a k, ¬ (a = y ∧ 28 ≤ k ∧ k ≠ 37) → (a < y + 24 ∨ y + 26 < a) → j a k = i a k) → post j) : SpV G (d + 6) mX10_write [.ref y, .int w] post i r := by
  have h48 := hok.1
  generalize hTf : tw_txt nm len f (fun p => mo_at p OB) (fun p => mo_at p OK) = TX at hT h
  have tst : ∀ p, TX (p + 1) = TX p ++ tw_at nm len f (fun p => mo_at p OB) (fun p => mo_at p OK) p := fun p => by rw [← hTf]; rfl
  have tle : ∀ p, p ≤ len → (TX p).length ≤ (TX len).length := fun p hp => by
    have := tw_txt_le nm len f (fun p => mo_at p OB) (fun p => mo_at p OK) (len - p) p
    rw [hTf, show p + (len - p) = len by omega] at this
    exact this
  rw [List.length_append] at hT
  refine sp_of 1 (by decide +kernel) (Nat.le_of_ble_eq_true rfl) rfl (sX10_write_0 y _ ⟨hm.1, fun i2 f2 i3 f3 i4 f4 => ?_⟩)
  have k4 : ∀ a k, ¬ (a = y ∧ (k = 38 ∨ k = 39 ∨ k = 40)) → i4 a k = i a k := fun a k n => by
    rw [f4, f3, f2]
    by_cases e : a = y
    · rw [o_up_k (fun z => n ⟨e, Or.inr (Or.inr z)⟩), o_up_k (fun z => n ⟨e, Or.inl z⟩), o_up_k (fun z => n ⟨e, Or.inr (Or.inl z)⟩)]
    · rw [o_up_a e, o_up_a e, o_up_a e]
  have S4 : wo_S i4 y [] w := by
    refine ⟨?_, ?_, ?_⟩
    · rw [f4, o_up_k (by decide), f3, o_up_s]
      rfl
    · rw [f4, o_up_k (by decide), f3, o_up_k (by decide), f2, o_up_s]
    · rw [f4, o_up_s]
      unfold wo_f
      split
      · rfl
      · rfl
  have c37 : i4 y 37 = 1 := by rw [k4 _ _ (by omega)]; exact hcal
  have N4 : mn_S i4 y nm len f := ⟨⟨by rw [k4 _ _ (by omega)]; exact hN.1.1, hN.1.2.1, fun k c hk => by rw [k4 _ _ (by omega)]; exact hN.1.2.2 k c hk⟩, by rw [k4 _ _ (by omega)]; exact hN.2.1, hN.2.2.1, fun p hp => by rw [k4 _ _ (by omega)]; exact hN.2.2.2 p hp⟩
  have D4 : ms_D i4 y OB OK := ⟨⟨by rw [k4 _ _ (by omega)]; exact hD.1.1, fun k o ho => by rw [k4 _ _ (by omega), k4 _ _ (by omega), k4 _ _ (by omega)]; exact hD.1.2 k o ho⟩, ⟨by rw [k4 _ _ (by omega)]; exact hD.2.1, fun k o ho => by rw [k4 _ _ (by omega), k4 _ _ (by omega), k4 _ _ (by omega)]; exact hD.2.2 k o ho⟩⟩
  have loop : ∀ m p j, p + m = len → wo_S j y (tw_h ++ TX p) w → mv_F y i4 j → Ok G (d + 6) mX10_write (fun v j q => q = r ∧ v = none ∧ post j) 29 [some (.ref y), none, some (.int (nI p))] [] j r := by
    intro m
    induction m with
    | zero =>
      intro p j hp S F
      have hp : p = len := by omega
      subst hp
      refine sX10_write_29 y _ ⟨hm.1, fun _ => o_rv (h j S (fun a k n m => ?_)), fun q => absurd (by rw [(mv_mn N4 F).2.1]; exact nI_le (by omega) (by omega)) q⟩
      rw [F a k (by omega) m, k4 a k (by omega)]
    | succ m ih =>
      intro p j hp S F
      have hpl : p < len := by omega
      have N := mv_mn N4 F
      have D : ms_D j y OB OK := ⟨mv_mo D4.1 (by decide) F, mv_mo D4.2 (by decide) F⟩
      have hlen := tle (p + 1) (by omega)
      rw [tst p, List.length_append] at hlen
      -- behind the site of bases
      have second : ∀ j2, wo_S j2 y ((tw_h ++ TX p) ++ tw_ln 0 nm f (mo_at p OB) p (f p)) w → mv_F y i4 j2 → SpI G (d + 5) mX10_siteThere [.ref y, .int 1, .int (nI p)] (fun x5 i5 => ((x5 = 0 → ∀ x7 : Int32, x7 = nI p + 1 → Ok G (d + 6) mX10_write (fun v j q => q = r ∧ v = none ∧ post j) 29 [some (.ref y), none, some (.int x7)] [] i5 r) ∧ (¬ x5 = 0 → SpV G (d + 5) mX10_outLine [.ref y] (fun i8 => ∀ x9 : Int32, x9 = nI p + 1 → Ok G (d + 6) mX10_write (fun v j q => q = r ∧ v = none ∧ post j) 29 [some (.ref y), none, some (.int x9)] [] i8 r) i5 r))) j2 r := by
        intro j2 S2 F2
        have fin : ∀ j3 x, wo_S j3 y (((tw_h ++ TX p) ++ tw_ln 0 nm f (mo_at p OB) p (f p)) ++ (if p + 1 < len then tw_ln 1 nm f (mo_at p OK) p 0 else [])) w → mv_F y i4 j3 → x = nI p + 1 → Ok G (d + 6) mX10_write (fun v j q => q = r ∧ v = none ∧ post j) 29 [some (.ref y), none, some (.int x)] [] j3 r := by
          intro j3 x S3 F3 ex
          rw [ex, nI_1]
          refine ih (p + 1) j3 (by omega) ?_ F3
          rw [tst p]
          unfold tw_at
          rw [← List.append_assoc, ← List.append_assoc]
          exact S3
        refine m_there (lk := 1) (OB := OB) (OK := OK) hm (by decide) ⟨mv_mo D4.1 (by decide) F2, mv_mo D4.2 (by decide) F2⟩ hok (mv_mn N4 F2) hpl (fun _ hle => ⟨fun _ x7 e7 => fin j2 x7 (by rw [if_neg (by omega), List.append_nil]; exact S2) F2 e7, fun q => absurd rfl q⟩) (fun hl j3 L3 G3 => ?_)
        have hlt := hl rfl
        have S3 : wo_S j3 y ((tw_h ++ TX p) ++ tw_ln 0 nm f (mo_at p OB) p (f p)) w := ⟨by rw [G3 _ _ (by omega) (by omega)]; exact S2.1, by rw [G3 _ _ (by omega) (by omega)]; exact S2.2.1, by rw [G3 _ _ (by omega) (by omega)]; exact S2.2.2⟩
        have F3 := F2.trans (mv_md G3)
        have eO : mo_at p (sw_O 1 OB OK) = mo_at p OK := rfl
        by_cases hy : jd_yes (mo_at p OK) 0 = true
        · refine ⟨fun q => absurd q ?_, fun _ => ?_⟩
          · rw [if_neg (show ¬ (1 : Nat) = 0 by decide), eO, if_pos hy]
            decide
          · refine m_ln (lk := 1) (OB := OB) (OK := OK) hm (by decide) hok (mv_mn N4 F3) hpl hl L3 hy S3 ?_ (fun j4 S4 G4 x9 e9 => fin j4 x9 ?_ (F3.trans (mv_wo G4)) e9)
            · have : (tw_at nm len f (fun p => mo_at p OB) (fun p => mo_at p OK) p).length = (tw_ln 0 nm f (mo_at p OB) p (f p)).length + (tw_ln 1 nm f (mo_at p OK) p 0).length := by
                unfold tw_at
                rw [List.length_append, if_pos hlt]
              rw [List.length_append, List.length_append]
              show _ + (tw_ln 1 nm f (mo_at p OK) p 0).length ≤ 2220
              omega
            · rw [if_pos hlt]
              exact S4
        · refine ⟨fun _ x7 e7 => fin j3 x7 ?_ F3 e7, fun q => absurd ?_ q⟩
          · rw [if_pos hlt]
            unfold tw_ln
            rw [if_neg hy, List.append_nil]
            exact S3
          · rw [if_neg (show ¬ (1 : Nat) = 0 by decide), eO, if_neg hy]
      refine sX10_write_29 y _ ⟨hm.1, fun q => absurd q (by rw [N.2.1]; exact nI_ge hpl (by omega)), fun _ => ?_⟩
      refine m_there (lk := 0) (OB := OB) (OK := OK) hm (by decide) D hok N hpl (fun e => by omega) (fun _ j3 L3 G3 => ?_)
      have S3 : wo_S j3 y (tw_h ++ TX p) w := ⟨by rw [G3 _ _ (by omega) (by omega)]; exact S.1, by rw [G3 _ _ (by omega) (by omega)]; exact S.2.1, by rw [G3 _ _ (by omega) (by omega)]; exact S.2.2⟩
      have F3 := F.trans (mv_md G3)
      have eO : mo_at p (sw_O 0 OB OK) = mo_at p OB := rfl
      by_cases hy : jd_yes (mo_at p OB) (f p) = true
      · refine ⟨fun q => absurd q ?_, fun _ => ?_⟩
        · rw [if_pos (show (0 : Nat) = 0 from rfl), eO, if_pos hy]
          decide
        · refine m_ln (lk := 0) (OB := OB) (OK := OK) hm (by decide) hok (mv_mn N4 F3) hpl (fun e => by omega) L3 hy S3 ?_ (fun j4 S4 G4 => second j4 S4 (F3.trans (mv_wo G4)))
          have : (tw_ln 0 nm f (mo_at p OB) p (f p)).length ≤ (tw_at nm len f (fun p => mo_at p OB) (fun p => mo_at p OK) p).length := by
            unfold tw_at
            rw [List.length_append]
            exact Nat.le_add_right _ _
          rw [List.length_append]
          show _ + (tw_ln 0 nm f (mo_at p OB) p (f p)).length ≤ 2220
          omega
      · refine ⟨fun _ => second j3 ?_ F3, fun q => absurd ?_ q⟩
        · unfold tw_ln
          rw [if_neg hy, List.append_nil]
          exact S3
        · rw [if_pos (show (0 : Nat) = 0 from rfl), eO, if_neg hy]
  refine ⟨fun _ => m_outHead hm S4 (fun j S F => loop len 0 j (by omega) ?_ (mv_wo F)), fun q => absurd q (by rw [c37]; decide)⟩
  rw [show TX 0 = [] by rw [← hTf]; rfl, List.append_nil]
  exact S
/-- before the first call: nothing is written -/
theorem m_write0 {G : o_G} {d : Nat} {i : o_I} {r : o_R} {post : o_I → Prop} {y : Nat} {w : Int32} (hm : ly_m G r y) (hcal : i y 37 = 0) (h : ∀ j, wo_S j y [] w → (∀ a k, ¬ (a = y ∧ 28 ≤ k ∧ k ≠ 37) → (a < y + 24 ∨ y + 26 < a) → j a k = i a k) → post j) : SpV G (d + 1) mX10_write [.ref y, .int w] post i r := by
  refine sp_of 1 (by decide +kernel) (Nat.le_of_ble_eq_true rfl) rfl (sX10_write_0 y _ ⟨hm.1, fun i2 f2 i3 f3 i4 f4 => ⟨fun q => absurd ?_ q, fun _ => o_rv (h i4 ⟨?_, ?_, ?_⟩ (fun a k n _ => ?_))⟩⟩)
  · rw [f4, o_up_k (by decide), f3, o_up_k (by decide), f2, o_up_k (by decide)]
    exact hcal
  · rw [f4, o_up_k (by decide), f3, o_up_s]
    rfl
  · rw [f4, o_up_k (by decide), f3, o_up_k (by decide), f2, o_up_s]
  · rw [f4, o_up_s]
    unfold wo_f
    split <;> rfl
  · rw [f4, f3, f2]
    by_cases e : a = y
    · rw [o_up_k (by omega), o_up_k (by omega), o_up_k (by omega)]
    · rw [o_up_a e, o_up_a e, o_up_a e]

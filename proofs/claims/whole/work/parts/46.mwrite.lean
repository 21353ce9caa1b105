/-! THE REFERENCE: judgement in the class's numbers, outHead, write -/
theorem jd_ch_cong {f g : Nat → Nat} : ∀ n, (∀ k, k < n → f k = g k) → jd_ch f n = jd_ch g n := by
  intro n
  induction n with
  | zero => intro _; rfl
  | succ n ih =>
    intro h
    have e := ih (fun k hk => h k (by omega))
    have hle := jd_ch_le g n
    show (if f n < f (jd_ch f n) then n else jd_ch f n) = (if g n < g (jd_ch g n) then n else jd_ch g n)
    rw [e, h n (by omega), h (jd_ch g n) (by omega)]
theorem getD_map {f : Nat → Nat} {al : List Nat} {k : Nat} (h : k < al.length) : (al.map f).getD k 0 = f (al.getD k 0) := by
  rw [List.getD_eq_getElem?_getD, List.getElem?_map, getD_some h]
  rfl
theorem getD_mem {al : List Nat} {k : Nat} (h : k < al.length) : al.getD k 0 ∈ al := List.mem_of_getElem? (getD_some h)
theorem jd_pk_map {f : Nat → Nat} {V : Nat → Prop} (hf : jd_mono f V) {s : jd_s} {al : List Nat} {k : Nat} (hs : ∀ o ∈ s, V o.1) (hal : ∀ x ∈ al, V x) (h1 : 1 ≤ al.length) (h3 : al.length ≤ 3) (hk : k < jd_np al.length) : jd_pk (jd_map f s) (al.map f) k = jd_pk s al k := by
  obtain ⟨fa, fb⟩ := jd_fi_lt h1 h3 hk
  unfold jd_pk
  rw [getD_map fa, getD_map fb]
  exact jd_pen_map hf (hal _ (getD_mem fa)) (hal _ (getD_mem fb)) s _ hs
theorem jd_co_map {f : Nat → Nat} {V : Nat → Prop} (hf : jd_mono f V) {s : jd_s} {al : List Nat} (hs : ∀ o ∈ s, V o.1) (hal : ∀ x ∈ al, V x) (h1 : 1 ≤ al.length) (h3 : al.length ≤ 3) : jd_co (jd_map f s) (al.map f) = jd_co s al := by
  unfold jd_co
  rw [List.length_map]
  exact jd_ch_cong _ (fun k hk => jd_pk_map hf hs hal h1 h3 hk)
theorem jd_yes_eq (s : jd_s) (ref : Nat) : jd_yes s ref = !decide (jd_co s (jd_al s ref) = 0) := rfl
theorem jd_yes_map {f : Nat → Nat} {V : Nat → Prop} (hf : jd_mono f V) {s : jd_s} {ref : Nat} (hs : ∀ o ∈ s, V o.1) (hr : V ref) : jd_yes (jd_map f s) (f ref) = jd_yes s ref := by
  obtain ⟨a1, a3⟩ := jd_al_len s ref
  rw [jd_yes_eq, jd_yes_eq, jd_al_map hf hs hr, jd_co_map hf hs (jd_al_V hf hs hr) a1 a3]
/-- the kinds of numbers at a site -/
def fm_V (lk c : Nat) : Prop := if lk = 0 then c < 4 else lk_V c
theorem fm_mono (lk : Nat) : jd_mono (fm lk) (fm_V lk) := by
  intro x y hx hy
  unfold fm fm_V at *
  by_cases h : lk = 0
  · rw [if_pos h, if_pos h]
  · rw [if_neg h] at hx hy
    rw [if_neg h, if_neg h]
    exact mc_mono x y hx hy
theorem fm_0 (lk : Nat) : fm lk 0 = 0 := by unfold fm; split <;> rfl
theorem fm_le {lk c : Nat} (h : fm_V lk c) : fm lk c ≤ 103 := by
  unfold fm fm_V at *
  by_cases e : lk = 0
  · rw [if_pos e] at h ⊢
    omega
  · rw [if_neg e] at h ⊢
    exact (mc_lt h).2
theorem md_S_L {j : o_I} {y lk p ref : Nat} {s : jd_s} (hs : ∀ o ∈ s, fm_V lk o.1) (hr : fm_V lk ref) (h : md_S j y lk p (jd_map (fm lk) s) (jd_al (jd_map (fm lk) s) (fm lk ref))) : md_L j y lk p s (jd_al s ref) := by
  obtain ⟨a1, a3⟩ := jd_al_len s ref
  have hal := jd_al_V (fm_mono lk) hs hr
  rw [jd_al_map (fm_mono lk) hs hr] at h
  obtain ⟨m1, m2, m3, ⟨m4, m5⟩, m6, m7, m8, m9⟩ := h
  rw [List.length_map] at m4 m7 m8
  refine ⟨m1, m2, ?_, m4, fun k c hk => ?_, m7, fun k hk => ?_, ?_⟩
  · rw [m3]
    unfold jd_map
    rw [List.length_map]
  · have hcV := hal c (List.mem_of_getElem? hk)
    obtain ⟨q1, q2⟩ := m5 k (fm lk c) (by rw [List.getElem?_map, hk]; rfl)
    refine ⟨q1, q2, ?_⟩
    rw [m6 (fm lk c) (by omega), jd_n_map (fm_mono lk) hs hcV]
  · rw [m8 k hk, jd_pk_map (fm_mono lk) hs hal a1 a3 hk]
  · have : jd_ch (jd_pk (jd_map (fm lk) s) ((jd_al s ref).map (fm lk))) (jd_np ((jd_al s ref).map (fm lk)).length) = jd_co s (jd_al s ref) := jd_co_map (fm_mono lk) hs hal a1 a3
    rw [m9, this]
theorem m_outHead {G : o_G} {d : Nat} {i : o_I} {r : o_R} {post : o_I → Prop} {y : Nat} {w : Int32} (hm : ly_m G r y) (hS : wo_S i y [] w) (h : ∀ j, wo_S j y tw_h w → wo_F y i j → post j) : SpV G (d + 3) mX10_outHead [.ref y] post i r := by
  refine sp_of 0 (by decide +kernel) (Nat.le_of_ble_eq_true rfl) rfl (sX10_outHead_0 y ⟨hm.1, ?_⟩)
  refine m_outSix (l := []) (a := 35) (b := 35) (c := 102) (e := 105) (f := 108) (g := 101) hm (by decide) (by decide) (by decide) (by decide) (by decide) hS (by decide) (fun j1 S1 F1 => ?_)
  refine m_outSix (a := 102) (b := 111) (c := 114) (e := 109) (f := 97) (g := 116) hm (by decide) (by decide) (by decide) (by decide) (by decide) S1 (by decide) (fun j2 S2 F2 => ?_)
  refine m_outSix (a := 61) (b := 86) (c := 67) (e := 70) (f := 118) (g := 52) hm (by decide) (by decide) (by decide) (by decide) (by decide) S2 (by decide) (fun j3 S3 F3 => ?_)
  refine m_outSix (a := 46) (b := 51) (c := 10) (e := 35) (f := 67) (g := 72) hm (by decide) (by decide) (by decide) (by decide) (by decide) S3 (by decide) (fun j4 S4 F4 => ?_)
  refine m_outSix (a := 82) (b := 79) (c := 77) (e := 9) (f := 80) (g := 79) hm (by decide) (by decide) (by decide) (by decide) (by decide) S4 (by decide) (fun j5 S5 F5 => ?_)
  refine m_outSix (a := 83) (b := 9) (c := 73) (e := 68) (f := 9) (g := 82) hm (by decide) (by decide) (by decide) (by decide) (by decide) S5 (by decide) (fun j6 S6 F6 => ?_)
  refine m_outSix (a := 69) (b := 70) (c := 9) (e := 65) (f := 76) (g := 84) hm (by decide) (by decide) (by decide) (by decide) (by decide) S6 (by decide) (fun j7 S7 F7 => ?_)
  refine m_outSix (a := 9) (b := 81) (c := 85) (e := 65) (f := 76) (g := 9) hm (by decide) (by decide) (by decide) (by decide) (by decide) S7 (by decide) (fun j8 S8 F8 => ?_)
  refine m_outSix (a := 70) (b := 73) (c := 76) (e := 84) (f := 69) (g := 82) hm (by decide) (by decide) (by decide) (by decide) (by decide) S8 (by decide) (fun j9 S9 F9 => ?_)
  refine m_outSix (a := 9) (b := 73) (c := 78) (e := 70) (f := 79) (g := 9) hm (by decide) (by decide) (by decide) (by decide) (by decide) S9 (by decide) (fun j10 S10 F10 => ?_)
  refine m_outSix (a := 70) (b := 79) (c := 82) (e := 77) (f := 65) (g := 84) hm (by decide) (by decide) (by decide) (by decide) (by decide) S10 (by decide) (fun j11 S11 F11 => ?_)
  refine m_outSix (a := 9) (b := 83) (c := 10) (e := 0) (f := 0) (g := 0) hm (by decide) (by decide) (by decide) (by decide) (by decide) S11 (by decide) (fun j12 S12 F12 => o_rv (h j12 S12 (F1.trans (F2.trans (F3.trans (F4.trans (F5.trans (F6.trans (F7.trans (F8.trans (F9.trans (F10.trans (F11.trans F12)))))))))))))
/-- the text of the differences: sites of bases SB, of links SK -/
def tw_ln (lk : Nat) (nm : List Nat) (f : Nat → Nat) (s : jd_s) (p ref : Nat) : List Nat := if jd_yes s ref = true then tw_line lk nm p f s (jd_al s ref) else []
def tw_at (nm : List Nat) (len : Nat) (f : Nat → Nat) (SB SK : Nat → jd_s) (p : Nat) : List Nat := tw_ln 0 nm f (SB p) p (f p) ++ (if p + 1 < len then tw_ln 1 nm f (SK p) p 0 else [])
def tw_txt (nm : List Nat) (len : Nat) (f : Nat → Nat) (SB SK : Nat → jd_s) : Nat → List Nat
  | 0 => []
  | n + 1 => tw_txt nm len f SB SK n ++ tw_at nm len f SB SK n
theorem tw_txt_le (nm : List Nat) (len : Nat) (f : Nat → Nat) (SB SK : Nat → jd_s) : ∀ m n, (tw_txt nm len f SB SK n).length ≤ (tw_txt nm len f SB SK (n + m)).length := by
  intro m
  induction m with
  | zero => intro n; exact Nat.le_refl _
  | succ m ih =>
    intro n
    have := ih n
    show _ ≤ (tw_txt nm len f SB SK (n + m) ++ tw_at nm len f SB SK (n + m)).length
    rw [List.length_append]
    omega
theorem tw_fold_ge : ∀ (u : List Nat) n, n ≤ u.foldl (fun n c => if c < 4 then max n c else n) n := by
  intro u
  induction u with
  | nil => intro n; exact Nat.le_refl _
  | cons c u ih =>
    intro n
    have := ih (if c < 4 then max n c else n)
    show n ≤ u.foldl _ (if c < 4 then max n c else n)
    split at this <;> split <;> omega
theorem tw_fold_mem : ∀ (u : List Nat) n c, c ∈ u → c < 4 → c ≤ u.foldl (fun n c => if c < 4 then max n c else n) n := by
  intro u
  induction u with
  | nil => intro n c h; cases h
  | cons x u ih =>
    intro n c h h4
    show c ≤ u.foldl _ (if x < 4 then max n x else n)
    rcases List.mem_cons.mp h with e | e
    · subst e
      have := tw_fold_ge u (if c < 4 then max n c else n)
      rw [if_pos h4] at this ⊢
      omega
    · exact ih _ c e h4
theorem tw_fold_is : ∀ (u : List Nat) n, u.foldl (fun n c => if c < 4 then max n c else n) n = n ∨ (u.foldl (fun n c => if c < 4 then max n c else n) n ∈ u ∧ u.foldl (fun n c => if c < 4 then max n c else n) n < 4) := by
  intro u
  induction u with
  | nil => intro n; exact Or.inl rfl
  | cons x u ih =>
    intro n
    have e : (x :: u).foldl (fun n c => if c < 4 then max n c else n) n = u.foldl (fun n c => if c < 4 then max n c else n) (if x < 4 then max n x else n) := rfl
    rw [e]
    rcases ih (if x < 4 then max n x else n) with h | ⟨h, h4⟩
    · rw [h]
      by_cases hx : x < 4
      · rw [if_pos hx]
        rcases (show max n x = n ∨ max n x = x by omega) with q | q
        · exact Or.inl q
        · rw [q]
          exact Or.inr ⟨List.mem_cons_self, hx⟩
      · rw [if_neg hx]
        exact Or.inl rfl
    · exact Or.inr ⟨List.mem_cons_of_mem _ h, h4⟩
theorem tw_loss_ok {s : jd_s} {p len : Nat} (hp : p + 1 ≤ len) (hlo : ∀ o ∈ s, o.1 < 4 → p + o.1 + 1 ≤ len) : p + tw_loss (jd_al s 0) + 1 ≤ len := by
  unfold tw_loss
  rcases tw_fold_is ((jd_al s 0).drop 1) 0 with h | ⟨h, h4⟩
  · rw [h]
    omega
  · rcases jd_al_mem (List.mem_of_mem_drop h) with e | ⟨o, ho, e⟩
    · rw [e]
      omega
    · rw [← e] at h4 ⊢
      exact hlo o ho h4

/-! HOW LONG THE TEXT IS: a line at most 85, a line for each reported site, a site for an observation that is not the reference's -/
theorem tw_dg_3 (n : Nat) : (tw_dg n).length ≤ 3 := by
  unfold tw_dg tw_e
  rw [tw_ds_len]
  split
  · omega
  · split <;> omega
theorem tw_dg_2 {n : Nat} (h : n < 100) : (tw_dg n).length ≤ 2 := by
  unfold tw_dg tw_e
  rw [tw_ds_len]
  split
  · omega
  · omega
theorem tw_js_len {F : Nat → List Nat} {m : Nat} : ∀ (l : List Nat), (∀ c ∈ l, (F c).length ≤ m) → (tw_js F l).length ≤ l.length * (m + 1) := by
  intro l
  induction l with
  | nil => intro _; exact Nat.zero_le _
  | cons c l ih =>
    intro h
    have h1 := h c List.mem_cons_self
    have h2 := ih (fun x hx => h x (List.mem_cons_of_mem _ hx))
    show (F c ++ tw_js F l).length + 1 ≤ (l.length + 1) * (m + 1)
    rw [List.length_append, Nat.succ_mul]
    omega
theorem tw_jn_len {F : Nat → List Nat} {m : Nat} {l : List Nat} (h : ∀ c ∈ l, (F c).length ≤ m) : (tw_jn F l).length ≤ l.length * (m + 1) - 1 := by
  match l, h with
  | [], _ => exact Nat.zero_le _
  | c :: l, h =>
    have h1 := h c List.mem_cons_self
    have h2 := tw_js_len l (fun x hx => h x (List.mem_cons_of_mem _ hx))
    show (F c ++ tw_js F l).length ≤ (l.length + 1) * (m + 1) - 1
    rw [List.length_append, Nat.succ_mul]
    omega
theorem jd_fi_2 (k : Nat) : jd_fi k ≤ 2 := by
  match k with
  | 0 => decide
  | 1 => decide
  | 2 => decide
  | 3 => decide
  | 4 => decide
  | 5 => decide
  | k + 6 => exact Nat.zero_le _
theorem jd_se_2 (k : Nat) : jd_se k ≤ 2 := by
  match k with
  | 0 => decide
  | 1 => decide
  | 2 => decide
  | 3 => decide
  | 4 => decide
  | 5 => decide
  | k + 6 => exact Nat.zero_le _
theorem tw_jud_len {s : jd_s} {al : List Nat} (hs : s.length ≤ 8) (h1 : 1 ≤ al.length) (h3 : al.length ≤ 3) : (tw_jud s al).length ≤ 57 := by
  have a1 := tw_dg_3 (min 999 (jd_xs s al 0))
  have a2 := tw_dg_1 (n := jd_fi (jd_co s al)) (by have := jd_fi_2 (jd_co s al); omega)
  have a3 := tw_dg_1 (n := jd_se (jd_co s al)) (by have := jd_se_2 (jd_co s al); omega)
  have a4 := tw_dg_1 (n := s.length) (by omega)
  have a5 : (tw_jn (fun c => tw_dg (jd_n s c)) al).length ≤ al.length * (1 + 1) - 1 := tw_jn_len (fun c _ => by
    have : jd_n s c ≤ s.length := List.countP_le_length
    rw [tw_dg_1 (n := jd_n s c) (by omega)]
    exact Nat.le_refl _)
  have a6 : (tw_jn (fun k => tw_dg (min 255 (jd_xs s al k))) (List.range (jd_np al.length))).length ≤ (List.range (jd_np al.length)).length * (3 + 1) - 1 := tw_jn_len (fun c _ => tw_dg_3 _)
  rw [List.length_range] at a6
  have a7 : jd_np al.length ≤ 6 := by rcases jd_np_cases h1 h3 with ⟨-, e⟩ | ⟨-, e⟩ | ⟨-, e⟩ <;> omega
  have a8 : tw_t5.length = 17 := rfl
  unfold tw_jud tw_j1 tw_j2
  simp only [List.length_append, List.length_cons, List.length_nil, a2, a3, a4, a8]
  omega
theorem tw_bs_len (f : Nat → Nat) : ∀ n lo, (tw_bs f lo n).length = n := by
  intro n
  induction n with
  | zero => intro lo; rfl
  | succ n ih =>
    intro lo
    show (tw_bs f (lo + 1) n).length + 1 = n + 1
    rw [ih]
theorem tw_gn_len (g : Nat) : (tw_gn g).length ≤ 3 := by
  unfold tw_gn
  split
  · exact (by decide : 1 ≤ 3)
  · split
    · exact (by decide : 2 ≤ 3)
    · exact Nat.le_refl _
theorem tw_alt_len (f : Nat → Nat) (p n c : Nat) : (tw_alt f p n c).length ≤ 4 + n ∧ (c < 4 → (tw_alt f p n c).length = 1 + (n - c)) := by
  unfold tw_alt
  rw [List.length_append, tw_bs_len]
  by_cases h : c < 4
  · rw [if_pos h, tw_bs_len]
    omega
  · rw [if_neg h, List.length_append, tw_bs_len]
    have := tw_gn_len c
    omega
theorem tw_loss_3 (al : List Nat) : tw_loss al ≤ 3 := by
  unfold tw_loss
  rcases tw_fold_is (al.drop 1) 0 with h | ⟨-, h⟩ <;> omega
theorem tw_alts_len {f : Nat → Nat} {p : Nat} {al : List Nat} (h1 : 1 ≤ al.length) (h3 : al.length ≤ 3) : (tw_jn (tw_alt f p (tw_loss al)) (al.drop 1)).length ≤ 9 := by
  have hl3 := tw_loss_3 al
  have hd : (al.drop 1).length ≤ 2 := by rw [List.length_drop]; omega
  have hin : tw_loss al = 0 ∨ tw_loss al ∈ al.drop 1 := by
    rcases tw_fold_is (al.drop 1) 0 with h | ⟨h, -⟩
    · exact Or.inl h
    · exact Or.inr h
  generalize tw_loss al = n at *
  match al.drop 1, hd, hin with
  | [], _, _ => exact Nat.zero_le _
  | [a], _, _ =>
    have := (tw_alt_len f p n a).1
    show (tw_alt f p n a ++ []).length ≤ 9
    rw [List.append_nil]
    omega
  | [a, b], _, hin =>
    obtain ⟨a1, a2⟩ := tw_alt_len f p n a
    obtain ⟨b1, b2⟩ := tw_alt_len f p n b
    show (tw_alt f p n a ++ 44 :: (tw_alt f p n b ++ [])).length ≤ 9
    rw [List.append_nil, List.length_append, List.length_cons]
    rcases hin with h | h
    · omega
    · rcases List.mem_cons.mp h with e | e
      · have := a2 (by omega)
        omega
      · have e := List.mem_singleton.mp e
        have := b2 (by omega)
        omega
  | a :: b :: c :: l, hd, _ => exact absurd hd (by simp)
theorem tw_line_len {lk p : Nat} {nm al : List Nat} {f : Nat → Nat} {s : jd_s} (hn : nm.length ≤ 8) (hp : p < 99) (hs : s.length ≤ 8) (h1 : 1 ≤ al.length) (h3 : al.length ≤ 3) : (tw_line lk nm p f s al).length ≤ 85 := by
  have a1 := tw_jud_len hs h1 h3
  have a2 := tw_dg_2 (n := p + 1) (by omega)
  have a3 := tw_loss_3 al
  have a4 : tw_t4.length = 3 := rfl
  have a5 : (tw_jn (tw_ax lk f p (if lk = 0 then 0 else tw_loss al)) (al.drop 1)).length ≤ 9 := by
    by_cases e : lk = 0
    · have : (tw_jn (tw_ax lk f p (if lk = 0 then 0 else tw_loss al)) (al.drop 1)).length ≤ (al.drop 1).length * (1 + 1) - 1 := tw_jn_len (fun c _ => by
        unfold tw_ax
        rw [if_pos e]
        exact Nat.le_refl _)
      rw [List.length_drop] at this
      omega
    · have e2 : tw_ax lk f p (if lk = 0 then 0 else tw_loss al) = tw_alt f p (tw_loss al) := by
        funext c
        unfold tw_ax
        rw [if_neg e, if_neg e]
      rw [e2]
      exact tw_alts_len h1 h3
  unfold tw_line tw_pos
  have a6 : (if lk = 0 then 0 else tw_loss al) ≤ 3 := by split <;> omega
  generalize (if lk = 0 then 0 else tw_loss al) = w at a5 a6 ⊢
  simp only [List.length_append, List.length_cons, List.length_nil, tw_bs_len, a4]
  omega
theorem tw_txt_len {nm : List Nat} {len : Nat} {f : Nat → Nat} {SB SK : Nat → jd_s} (hn : nm.length ≤ 8) (hB : ∀ p, (SB p).length ≤ 8) (hK : ∀ p, (SK p).length ≤ 8) : ∀ n, n ≤ 99 → (tw_txt nm len f SB SK n).length ≤ 85 * tw_cnt len f SB SK n := by
  have one : ∀ lk s p ref, s.length ≤ 8 → p < 99 → (tw_ln lk nm f s p ref).length ≤ 85 * jd_b1 (jd_yes s ref) := fun lk s p ref hs hp => by
    obtain ⟨a1, a3⟩ := jd_al_len s ref
    unfold tw_ln jd_b1
    by_cases e : jd_yes s ref = true
    · rw [if_pos e, if_pos e]
      exact tw_line_len hn hp hs a1 a3
    · rw [if_neg e]
      exact Nat.zero_le _
  intro n
  induction n with
  | zero => intro _; exact Nat.zero_le _
  | succ n ih =>
    intro hle
    have i0 := ih (by omega)
    have i1 := one 0 (SB n) n (f n) (hB n) (by omega)
    have i2 := one 1 (SK n) n 0 (hK n) (by omega)
    show (tw_txt nm len f SB SK n ++ (tw_ln 0 nm f (SB n) n (f n) ++ (if n + 1 < len then tw_ln 1 nm f (SK n) n 0 else []))).length ≤ 85 * (tw_cnt len f SB SK n + jd_b1 (jd_yes (SB n) (f n)) + (if n + 1 < len then jd_b1 (jd_yes (SK n) 0) else 0))
    rw [List.length_append, List.length_append]
    by_cases e : n + 1 < len
    · rw [if_pos e, if_pos e]
      omega
    · rw [if_neg e, if_neg e]
      show _ + (_ + 0) ≤ _
      omega
/-- a site where all is the reference's isn't reported -/
theorem jd_yes_ex {s : jd_s} {ref : Nat} (h : jd_yes s ref = true) : ∃ o ∈ s, o.1 ≠ ref := by
  refine Classical.byContradiction (fun hn => ?_)
  have hall : ∀ o ∈ s, o.1 = ref := fun o ho => Classical.byContradiction (fun e => hn ⟨o, ho, e⟩)
  have hb : jd_best s [ref] = none := by
    have := jd_best_B s [ref]
    match e : jd_best s [ref], this with
    | none, _ => rfl
    | some b, hb =>
      obtain ⟨⟨o, ho, e1⟩, hb2, -⟩ := hb
      exact absurd (by rw [← e1, hall o ho]; exact List.mem_singleton.mpr rfl) hb2
  have hal : jd_al s ref = [ref] := by
    unfold jd_al jd_add
    rw [hb]
    show [ref] ++ (jd_best s [ref]).toList = [ref]
    rw [hb]
    rfl
  unfold jd_yes at h
  rw [hal] at h
  have : jd_ch (jd_pk s [ref]) (jd_np [ref].length) = 0 := by
    have : jd_np [ref].length = 1 := (by decide : jd_np 1 = 1)
    rw [this]
    rcases jd_ch_le (jd_pk s [ref]) 1 with h | h <;> omega
  rw [this] at h
  cases h
/-- observations below place n that are not the reference's -/
def xo_n (f : Nat → Nat) (O : mo_O) (n : Nat) : Nat := O.countP (fun o => decide (o.1 < n) && !(o.2.1 == f o.1))
theorem xo_cons (f : Nat → Nat) (o : Nat × Nat × Nat) (O : mo_O) (n : Nat) : xo_n f (o :: O) n = xo_n f O n + if o.1 < n ∧ o.2.1 ≠ f o.1 then 1 else 0 := by
  unfold xo_n
  rw [List.countP_cons]
  simp
theorem xo_step {f : Nat → Nat} {n : Nat} : ∀ {O : mo_O}, xo_n f O n + jd_b1 (jd_yes (mo_at n O) (f n)) ≤ xo_n f O (n + 1) := by
  have key : ∀ O : mo_O, xo_n f O n ≤ xo_n f O (n + 1) ∧ ((∃ o ∈ mo_at n O, o.1 ≠ f n) → xo_n f O n + 1 ≤ xo_n f O (n + 1)) := by
    intro O
    induction O with
    | nil => exact ⟨Nat.le_refl _, fun ⟨o, ho, _⟩ => by cases ho⟩
    | cons o O ih =>
      obtain ⟨i1, i2⟩ := ih
      rw [xo_cons, xo_cons, mo_at_cons]
      have mono : (if o.1 < n ∧ o.2.1 ≠ f o.1 then 1 else 0) ≤ (if o.1 < n + 1 ∧ o.2.1 ≠ f o.1 then 1 else 0) := by
        split
        · rename_i h
          rw [if_pos ⟨by omega, h.2⟩]
          exact Nat.le_refl _
        · exact Nat.zero_le _
      refine ⟨by omega, fun ⟨q, hq, hne⟩ => ?_⟩
      by_cases e : o.1 = n
      · rw [if_pos e] at hq
        rcases List.mem_cons.mp hq with h | h
        · rw [if_neg (by omega), if_pos ⟨by omega, by rw [e, ← h]; exact hne⟩]
          omega
        · have := i2 ⟨q, h, hne⟩
          omega
      · rw [if_neg e] at hq
        have := i2 ⟨q, hq, hne⟩
        omega
  intro O
  unfold jd_b1
  by_cases e : jd_yes (mo_at n O) (f n) = true
  · rw [if_pos e]
    exact (key O).2 (jd_yes_ex e)
  · rw [if_neg e]
    exact (key O).1
theorem tw_cnt_xo (len : Nat) (f : Nat → Nat) (OB OK : mo_O) : ∀ n, tw_cnt len f (fun p => mo_at p OB) (fun p => mo_at p OK) n ≤ xo_n f OB n + xo_n (fun _ => 0) OK n := by
  intro n
  induction n with
  | zero => exact Nat.zero_le _
  | succ n ih =>
    have h1 := xo_step (f := f) (n := n) (O := OB)
    have h2 := xo_step (f := fun _ => 0) (n := n) (O := OK)
    show tw_cnt len f (fun p => mo_at p OB) (fun p => mo_at p OK) n + jd_b1 (jd_yes (mo_at n OB) (f n)) + (if n + 1 < len then jd_b1 (jd_yes (mo_at n OK) 0) else 0) ≤ _
    split <;> omega
theorem tw_len {nm : List Nat} {len : Nat} {f : Nat → Nat} {OB OK : mo_O} (hn : nm.length ≤ 8) (hok : sw_ok len OB OK) (hx : xo_n f OB len + xo_n (fun _ => 0) OK len ≤ 24) : (tw_h ++ tw_txt nm len f (fun p => mo_at p OB) (fun p => mo_at p OK) len).length ≤ 2220 := by
  have h48 := hok.1
  have h1 := tw_txt_len (nm := nm) (len := len) (f := f) (SB := fun p => mo_at p OB) (SK := fun p => mo_at p OK) hn (fun p => (hok.2.2.2.2 p).1) (fun p => (hok.2.2.2.2 p).2) len (by omega)
  have h2 := tw_cnt_xo len f OB OK len
  have h3 : tw_h.length = 69 := by decide +kernel
  rw [List.length_append, h3]
  omega

/-! THE JUDGE: alleles, penalties, choice (pure) -/
abbrev jd_s : Type := List (Nat × Nat)
def jd_n (s : jd_s) (c : Nat) : Nat := s.countP (fun o => o.1 == c)
def jd_st (s : jd_s) (al : List Nat) (b : Option Nat) (o : Nat × Nat) : Option Nat := if o.1 ∈ al then b else match b with
  | none => some o.1
  | some x => if jd_n s x < jd_n s o.1 ∨ (jd_n s o.1 = jd_n s x ∧ o.1 < x) then some o.1 else some x
/-- the most seen that is no allele yet; of several the smallest -/
def jd_best (s : jd_s) (al : List Nat) : Option Nat := s.foldl (jd_st s al) none
def jd_B (s : jd_s) (al : List Nat) (t : jd_s) : Option Nat → Prop
  | none => ∀ o ∈ t, o.1 ∈ al
  | some b => (∃ o ∈ t, o.1 = b) ∧ b ∉ al ∧ ∀ o ∈ t, o.1 ∉ al → jd_n s o.1 < jd_n s b ∨ (jd_n s o.1 = jd_n s b ∧ b ≤ o.1)
theorem jd_B_step {s : jd_s} {al : List Nat} {t : jd_s} {b : Option Nat} {o : Nat × Nat} (h : jd_B s al t b) : jd_B s al (t ++ [o]) (jd_st s al b o) := by
  unfold jd_st
  by_cases ho : o.1 ∈ al
  · rw [if_pos ho]
    match b, h with
    | none, h =>
      exact fun q hq => by
        rcases List.mem_append.mp hq with hq | hq
        · exact h q hq
        · rw [List.mem_singleton.mp hq]
          exact ho
    | some b, ⟨⟨q, hq, e⟩, h2, h3⟩ =>
      exact ⟨⟨q, List.mem_append_left _ hq, e⟩, h2, fun z hz hn => by
        rcases List.mem_append.mp hz with hz | hz
        · exact h3 z hz hn
        · rw [List.mem_singleton.mp hz] at hn
          exact absurd ho hn⟩
  · rw [if_neg ho]
    match b, h with
    | none, h =>
      exact ⟨⟨o, List.mem_append_right _ (List.mem_singleton.mpr rfl), rfl⟩, ho, fun z hz hn => by
        rcases List.mem_append.mp hz with hz | hz
        · exact absurd (h z hz) hn
        · rw [List.mem_singleton.mp hz]
          exact Or.inr ⟨rfl, Nat.le_refl _⟩⟩
    | some b, ⟨⟨q, hq, e⟩, h2, h3⟩ =>
      show jd_B s al (t ++ [o]) (if jd_n s b < jd_n s o.1 ∨ (jd_n s o.1 = jd_n s b ∧ o.1 < b) then some o.1 else some b)
      by_cases hc : jd_n s b < jd_n s o.1 ∨ (jd_n s o.1 = jd_n s b ∧ o.1 < b)
      · rw [if_pos hc]
        refine ⟨⟨o, List.mem_append_right _ (List.mem_singleton.mpr rfl), rfl⟩, ho, fun z hz hn => ?_⟩
        rcases List.mem_append.mp hz with hz | hz
        · have := h3 z hz hn
          omega
        · rw [List.mem_singleton.mp hz]
          exact Or.inr ⟨rfl, Nat.le_refl _⟩
      · rw [if_neg hc]
        refine ⟨⟨q, List.mem_append_left _ hq, e⟩, h2, fun z hz hn => ?_⟩
        rcases List.mem_append.mp hz with hz | hz
        · exact h3 z hz hn
        · rw [List.mem_singleton.mp hz]
          omega
theorem jd_B_fold (s : jd_s) (al : List Nat) : ∀ (u t : jd_s) b, jd_B s al t b → jd_B s al (t ++ u) (u.foldl (jd_st s al) b) := by
  intro u
  induction u with
  | nil => intro t b h; rw [List.append_nil]; exact h
  | cons o u ih =>
    intro t b h
    have := ih (t ++ [o]) _ (jd_B_step (o := o) h)
    rw [List.append_assoc] at this
    exact this
theorem jd_best_B (s : jd_s) (al : List Nat) : jd_B s al s (jd_best s al) := jd_B_fold s al s [] none (fun o ho => by cases ho)
theorem jd_B_one {s : jd_s} {al : List Nat} {b c : Option Nat} (hb : jd_B s al s b) (hc : jd_B s al s c) : b = c := by
  match b, c, hb, hc with
  | none, none, _, _ => rfl
  | none, some c, hb, ⟨⟨q, hq, e⟩, h2, _⟩ => exact absurd (e ▸ hb q hq) h2
  | some b, none, ⟨⟨q, hq, e⟩, h2, _⟩, hc => exact absurd (e ▸ hc q hq) h2
  | some b, some c, ⟨⟨q, hq, e⟩, h2, h3⟩, ⟨⟨w, hw, f⟩, k2, k3⟩ =>
    have a1 := h3 w hw (f ▸ k2)
    have a2 := k3 q hq (e ▸ h2)
    rw [f] at a1
    rw [e] at a2
    have : b = c := by omega
    rw [this]
def jd_add (s : jd_s) (al : List Nat) : List Nat := al ++ (jd_best s al).toList
def jd_al (s : jd_s) (ref : Nat) : List Nat := jd_add s (jd_add s [ref])
theorem jd_add_len (s : jd_s) (al : List Nat) : al.length ≤ (jd_add s al).length ∧ (jd_add s al).length ≤ al.length + 1 := by
  unfold jd_add
  rw [List.length_append]
  cases jd_best s al <;> simp
theorem jd_al_len (s : jd_s) (ref : Nat) : 1 ≤ (jd_al s ref).length ∧ (jd_al s ref).length ≤ 3 := by
  have h1 := jd_add_len s [ref]
  have h2 := jd_add_len s (jd_add s [ref])
  unfold jd_al
  simp at h1
  omega
theorem jd_add_mem {s : jd_s} {al : List Nat} {c : Nat} (h : c ∈ jd_add s al) : c ∈ al ∨ ∃ o ∈ s, o.1 = c := by
  rcases List.mem_append.mp h with h | h
  · exact Or.inl h
  · have hB := jd_best_B s al
    match e : jd_best s al, hB, h with
    | none, _, h => cases h
    | some b, ⟨⟨q, hq, f⟩, _⟩, h =>
      have : c = b := by simpa using h
      exact Or.inr ⟨q, hq, by rw [this]; exact f⟩
theorem jd_al_mem {s : jd_s} {ref c : Nat} (h : c ∈ jd_al s ref) : c = ref ∨ ∃ o ∈ s, o.1 = c := by
  rcases jd_add_mem h with h | h
  · rcases jd_add_mem h with h | h
    · exact Or.inl (by simpa using h)
    · exact Or.inr h
  · exact Or.inr h
theorem jd_al_0 (s : jd_s) (ref : Nat) : (jd_al s ref).getD 0 0 = ref := rfl
/-- what is missed -/
def jd_po (x y t : Nat) (o : Nat × Nat) : Nat := if o.1 = x then (if o.1 = y then t else t + 3) else if o.1 = y then t + 3 else t + o.2
def jd_pen (s : jd_s) (x y b : Nat) : Nat := s.foldl (jd_po x y) b
def jd_base (a b : Nat) : Nat := if a = 0 then (if b = 0 then 0 else 20) else if a = b then 30 else 40
def jd_fi (k : Nat) : Nat := [0, 0, 1, 0, 1, 2].getD k 0
def jd_se (k : Nat) : Nat := [0, 1, 1, 2, 2, 2].getD k 0
def jd_pk (s : jd_s) (al : List Nat) (k : Nat) : Nat := jd_pen s (al.getD (jd_fi k) 0) (al.getD (jd_se k) 0) (jd_base (jd_fi k) (jd_se k))
def jd_np (n : Nat) : Nat := n * (n + 1) / 2
/-- the first of the least -/
def jd_ch (f : Nat → Nat) : Nat → Nat
  | 0 => 0
  | n + 1 => if f n < f (jd_ch f n) then n else jd_ch f n
theorem jd_ch_le (f : Nat → Nat) : ∀ n, jd_ch f n = 0 ∨ jd_ch f n < n := by
  intro n
  induction n with
  | zero => exact Or.inl rfl
  | succ n ih =>
    unfold jd_ch
    split <;> omega
theorem jd_ch_least (f : Nat → Nat) : ∀ n k, k < n → f (jd_ch f n) ≤ f k := by
  intro n
  induction n with
  | zero => intro k h; omega
  | succ n ih =>
    intro k h
    unfold jd_ch
    by_cases hk : k = n
    · subst hk
      split <;> omega
    · have := ih k (by omega)
      split <;> omega
theorem jd_pen_ge (x y : Nat) : ∀ (s : jd_s) b, b ≤ jd_pen s x y b := by
  intro s
  induction s with
  | nil => intro b; exact Nat.le_refl b
  | cons o s ih =>
    intro b
    have := ih (jd_po x y b o)
    have e : jd_pen (o :: s) x y b = jd_pen s x y (jd_po x y b o) := rfl
    rw [e]
    have : b ≤ jd_po x y b o := by
      unfold jd_po
      split <;> split <;> omega
    omega
theorem jd_pen_le (x y : Nat) : ∀ (s : jd_s) b, (∀ o ∈ s, o.2 ≤ 93) → jd_pen s x y b ≤ b + 93 * s.length := by
  intro s
  induction s with
  | nil => intro b _; exact Nat.le_refl b
  | cons o s ih =>
    intro b h
    have h1 := ih (jd_po x y b o) (fun q hq => h q (List.mem_cons_of_mem _ hq))
    have h2 := h o List.mem_cons_self
    have e : jd_pen (o :: s) x y b = jd_pen s x y (jd_po x y b o) := rfl
    rw [e, List.length_cons]
    have : jd_po x y b o ≤ b + 93 := by
      unfold jd_po
      split <;> split <;> omega
    omega
theorem jd_base_le (a b : Nat) : jd_base a b ≤ 40 := by
  unfold jd_base
  split <;> split <;> omega
theorem jd_pk_le {s : jd_s} {al : List Nat} {k : Nat} (h : ∀ o ∈ s, o.2 ≤ 93) (h8 : s.length ≤ 8) : jd_pk s al k ≤ 784 := by
  have h1 := jd_pen_le (al.getD (jd_fi k) 0) (al.getD (jd_se k) 0) s (jd_base (jd_fi k) (jd_se k)) h
  have h2 := jd_base_le (jd_fi k) (jd_se k)
  unfold jd_pk
  omega
/-- the same under other numbers that keep the order -/
def jd_map (f : Nat → Nat) (s : jd_s) : jd_s := s.map (fun o => (f o.1, o.2))
def jd_mono (f : Nat → Nat) (V : Nat → Prop) : Prop := ∀ x y, V x → V y → (f x < f y ↔ x < y)
theorem jd_inj {f : Nat → Nat} {V : Nat → Prop} (hf : jd_mono f V) {x y : Nat} (hx : V x) (hy : V y) : f x = f y ↔ x = y := by
  have h1 := hf x y hx hy
  have h2 := hf y x hy hx
  constructor
  · intro h
    omega
  · intro h
    rw [h]
theorem jd_mem_map {f : Nat → Nat} {V : Nat → Prop} (hf : jd_mono f V) {al : List Nat} {c : Nat} (hal : ∀ x ∈ al, V x) (hc : V c) : f c ∈ al.map f ↔ c ∈ al := by
  rw [List.mem_map]
  constructor
  · rintro ⟨x, hx, e⟩
    rw [← (jd_inj hf (hal x hx) hc).mp e]
    exact hx
  · intro h
    exact ⟨c, h, rfl⟩
theorem jd_n_map {f : Nat → Nat} {V : Nat → Prop} (hf : jd_mono f V) : ∀ {s : jd_s} {c : Nat}, (∀ o ∈ s, V o.1) → V c → jd_n (jd_map f s) (f c) = jd_n s c := by
  intro s c hs hc
  induction s with
  | nil => rfl
  | cons o s ih =>
    have h1 := ih (fun q hq => hs q (List.mem_cons_of_mem _ hq))
    have ho := hs o List.mem_cons_self
    unfold jd_n jd_map at h1 ⊢
    rw [List.map_cons, List.countP_cons, List.countP_cons, h1]
    congr 1
    by_cases e : o.1 = c
    · simp [e]
    · have : ¬ f o.1 = f c := fun z => e ((jd_inj hf ho hc).mp z)
      simp [e, this]
theorem jd_B_map {f : Nat → Nat} {V : Nat → Prop} (hf : jd_mono f V) {s : jd_s} {al : List Nat} {b : Option Nat} (hs : ∀ o ∈ s, V o.1) (hal : ∀ x ∈ al, V x) (h : jd_B s al s b) : jd_B (jd_map f s) (al.map f) (jd_map f s) (b.map f) := by
  match b, h with
  | none, h =>
    exact fun q hq => by
      obtain ⟨o, ho, rfl⟩ := List.mem_map.mp hq
      exact (jd_mem_map hf hal (hs o ho)).mpr (h o ho)
  | some b, ⟨⟨w, hw, e⟩, h2, h3⟩ =>
    have hb : V b := e ▸ hs w hw
    refine ⟨⟨(f w.1, w.2), List.mem_map.mpr ⟨w, hw, rfl⟩, by rw [e]⟩, fun z => h2 ((jd_mem_map hf hal hb).mp z), fun q hq hn => ?_⟩
    obtain ⟨o, ho, rfl⟩ := List.mem_map.mp hq
    have hn2 : o.1 ∉ al := fun z => hn ((jd_mem_map hf hal (hs o ho)).mpr z)
    have := h3 o ho hn2
    show jd_n (jd_map f s) (f o.1) < _ ∨ (jd_n (jd_map f s) (f o.1) = _ ∧ f b ≤ f o.1)
    rw [jd_n_map hf hs (hs o ho), jd_n_map hf hs hb]
    have k1 := hf o.1 b (hs o ho) hb
    omega
theorem jd_best_map {f : Nat → Nat} {V : Nat → Prop} (hf : jd_mono f V) {s : jd_s} {al : List Nat} (hs : ∀ o ∈ s, V o.1) (hal : ∀ x ∈ al, V x) : jd_best (jd_map f s) (al.map f) = (jd_best s al).map f := jd_B_one (jd_best_B _ _) (jd_B_map hf hs hal (jd_best_B s al))
theorem jd_add_map {f : Nat → Nat} {V : Nat → Prop} (hf : jd_mono f V) {s : jd_s} {al : List Nat} (hs : ∀ o ∈ s, V o.1) (hal : ∀ x ∈ al, V x) : jd_add (jd_map f s) (al.map f) = (jd_add s al).map f := by
  unfold jd_add
  rw [jd_best_map hf hs hal, List.map_append]
  cases jd_best s al <;> rfl
theorem jd_add_V {f : Nat → Nat} {V : Nat → Prop} (hf : jd_mono f V) {s : jd_s} {al : List Nat} (hs : ∀ o ∈ s, V o.1) (hal : ∀ x ∈ al, V x) : ∀ x ∈ jd_add s al, V x := fun x hx => by
  rcases jd_add_mem hx with h | ⟨o, ho, rfl⟩
  · exact hal x h
  · exact hs o ho
theorem jd_al_V {f : Nat → Nat} {V : Nat → Prop} (hf : jd_mono f V) {s : jd_s} {ref : Nat} (hs : ∀ o ∈ s, V o.1) (hr : V ref) : ∀ x ∈ jd_al s ref, V x := jd_add_V hf hs (jd_add_V hf hs (fun x hx => by rw [List.mem_singleton.mp hx]; exact hr))
theorem jd_al_map {f : Nat → Nat} {V : Nat → Prop} (hf : jd_mono f V) {s : jd_s} {ref : Nat} (hs : ∀ o ∈ s, V o.1) (hr : V ref) : jd_al (jd_map f s) (f ref) = (jd_al s ref).map f := by
  have h1 : ∀ x ∈ [ref], V x := fun x hx => by rw [List.mem_singleton.mp hx]; exact hr
  unfold jd_al
  rw [← jd_add_map hf hs (jd_add_V hf hs h1), ← jd_add_map hf hs h1]
  rfl
theorem jd_pen_map {f : Nat → Nat} {V : Nat → Prop} (hf : jd_mono f V) {x y : Nat} (hx : V x) (hy : V y) : ∀ (s : jd_s) b, (∀ o ∈ s, V o.1) → jd_pen (jd_map f s) (f x) (f y) b = jd_pen s x y b := by
  intro s
  induction s with
  | nil => intro b _; rfl
  | cons o s ih =>
    intro b hs
    have ho := hs o List.mem_cons_self
    show jd_pen (jd_map f s) (f x) (f y) (jd_po (f x) (f y) b (f o.1, o.2)) = jd_pen s x y (jd_po x y b o)
    rw [ih _ (fun q hq => hs q (List.mem_cons_of_mem _ hq))]
    congr 1
    unfold jd_po
    have e1 := jd_inj hf ho hx
    have e2 := jd_inj hf ho hy
    show (if f o.1 = f x then (if f o.1 = f y then b else b + 3) else if f o.1 = f y then b + 3 else b + o.2) = _
    simp only [e1, e2]
theorem jd_np_cases {n : Nat} (h1 : 1 ≤ n) (h3 : n ≤ 3) : (n = 1 ∧ jd_np n = 1) ∨ (n = 2 ∧ jd_np n = 3) ∨ (n = 3 ∧ jd_np n = 6) := by
  rcases (show n = 1 ∨ n = 2 ∨ n = 3 by omega) with rfl | rfl | rfl
  · exact Or.inl ⟨rfl, rfl⟩
  · exact Or.inr (Or.inl ⟨rfl, rfl⟩)
  · exact Or.inr (Or.inr ⟨rfl, rfl⟩)
theorem jd_fi_lt {n k : Nat} (h1 : 1 ≤ n) (h3 : n ≤ 3) (hk : k < jd_np n) : jd_fi k < n ∧ jd_se k < n := by
  rcases jd_np_cases h1 h3 with ⟨rfl, e⟩ | ⟨rfl, e⟩ | ⟨rfl, e⟩
  · rw [e] at hk
    rcases (show k = 0 by omega) with rfl
    decide
  · rw [e] at hk
    rcases (show k = 0 ∨ k = 1 ∨ k = 2 by omega) with rfl | rfl | rfl <;> decide
  · rw [e] at hk
    rcases (show k = 0 ∨ k = 1 ∨ k = 2 ∨ k = 3 ∨ k = 4 ∨ k = 5 by omega) with rfl | rfl | rfl | rfl | rfl | rfl <;> decide

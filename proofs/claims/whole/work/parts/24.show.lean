/-! WHAT A READ SHOWS -/
abbrev ob_B : Type := Nat × Int32 × Int32
abbrev ob_K : Type := Nat × Nat × Int32
def wt_min (x y : Int32) : Int32 := if y < x then y else x
/-- the link between two matches: lo positions left out, pin letters put in (1 none, 0 one of them N) -/
def wt_lk (lo pin : Nat) : Option Nat := if pin = 1 then some lo else if 0 < lo ∨ pin = 0 then none else some pin
def wt_wl (pin : Nat) (x : Int32) : Nat := if pin = 0 ∨ x = 4 then 0 else pin * 4 + x.toNatClampNeg
def wt_one (Q : Nat → Int32) (a : Nat) (last : Option (Nat × Nat)) (lo pin : Nat) : List ob_K := match last with
  | none => []
  | some (a0, p0) => match wt_lk lo pin with
    | none => []
    | some g => [(p0, g, wt_min (Q a0) (Q a))]
def wt_b1 (L Q : Nat → Int32) (a p : Nat) : List ob_B := if L a = 4 then [] else [(p, L a, Q a)]
/-- the bases that steps show, from letter a and position p on -/
def wtB (L Q : Nat → Int32) : List Nat → Nat → Nat → List ob_B
  | [], _, _ => []
  | t :: W, a, p => if t = 1 then wt_b1 L Q a p ++ wtB L Q W (a + 1) (p + 1) else if t = 2 then wtB L Q W a (p + 1) else wtB L Q W (a + 1) p
/-- the links -/
def wtK (L Q : Nat → Int32) : List Nat → Nat → Nat → Option (Nat × Nat) → Nat → Nat → List ob_K
  | [], _, _, _, _, _ => []
  | t :: W, a, p, last, lo, pin => if t = 1 then wt_one Q a last lo pin ++ wtK L Q W (a + 1) (p + 1) (some (a, p)) 0 1 else if t = 2 then wtK L Q W a (p + 1) last (lo + 1) pin else wtK L Q W (a + 1) p last lo (wt_wl pin (L a))
def at_B (p : Nat) (l : List ob_B) : List (Int32 × Int32) := (l.filter (fun o => o.1 == p)).map (fun o => o.2)
def at_K (p : Nat) (l : List ob_K) : List (Int32 × Int32) := (l.filter (fun o => o.1 == p)).map (fun o => (nI o.2.1, o.2.2))
theorem at_B_app (p : Nat) (a b : List ob_B) : at_B p (a ++ b) = at_B p a ++ at_B p b := by unfold at_B; rw [List.filter_append, List.map_append]
theorem at_K_app (p : Nat) (a b : List ob_K) : at_K p (a ++ b) = at_K p a ++ at_K p b := by unfold at_K; rw [List.filter_append, List.map_append]
theorem at_B_no {p : Nat} {l : List ob_B} (h : ∀ o ∈ l, o.1 ≠ p) : at_B p l = [] := by
  unfold at_B
  rw [List.filter_eq_nil_iff.mpr (fun o ho => by simp [h o ho])]
  rfl
theorem at_K_no {p : Nat} {l : List ob_K} (h : ∀ o ∈ l, o.1 ≠ p) : at_K p l = [] := by
  unfold at_K
  rw [List.filter_eq_nil_iff.mpr (fun o ho => by simp [h o ho])]
  rfl
/-- how many letters, positions, changes steps take -/
def nA (W : List Nat) : Nat := W.countP (fun t => t != 2)
def nB (W : List Nat) : Nat := W.countP (fun t => t != 3)
def nC (W : List Nat) : Nat := W.countP (fun t => t != 1)
theorem tb_counts (c : Nat → Nat → Nat) : ∀ n a b, a + b = n → nA (tb c a b) = a ∧ nB (tb c a b) = b ∧ nC (tb c a b) ≤ dp c a b ∧ ∀ t ∈ tb c a b, t = 1 ∨ t = 2 ∨ t = 3 := by
  intro n
  induction n using Nat.strongRecOn with
  | ind n ih =>
    intro a b hn
    by_cases h0 : a = 0 ∧ b = 0
    · obtain ⟨rfl, rfl⟩ := h0
      rw [tb_nil]
      exact ⟨rfl, rfl, Nat.zero_le _, fun t ht => by cases ht⟩
    · have hab : 0 < a ∨ 0 < b := by omega
      have hl := tb_less c hab
      obtain ⟨i1, i2, i3, i4⟩ := ih _ (by omega) (tb_a (tb_st c a b) a) (tb_b (tb_st c a b) b) rfl
      rw [tb_cons c hab]
      unfold nA nB nC at *
      rw [List.countP_cons, List.countP_cons, List.countP_cons, i1, i2]
      refine ⟨?_, ?_, ?_, fun t ht => ?_⟩
      · unfold tb_a
        rcases tb_cost c hab with ⟨e, h1, h2, h3⟩ | ⟨e, h1, h3⟩ | ⟨e, h1, h3⟩ <;> rw [e] <;> simp <;> omega
      · unfold tb_b
        rcases tb_cost c hab with ⟨e, h1, h2, h3⟩ | ⟨e, h1, h3⟩ | ⟨e, h1, h3⟩ <;> rw [e] <;> simp <;> omega
      · unfold tb_a tb_b at i3
        unfold tb_a tb_b
        rcases tb_cost c hab with ⟨e, h1, h2, h3⟩ | ⟨e, h1, h3⟩ | ⟨e, h1, h3⟩ <;> rw [e] at i3 ⊢ <;> simp at i3 ⊢ <;> omega
      · rcases List.mem_cons.mp ht with rfl | ht
        · exact tb_st3 c a b
        · exact i4 t ht
theorem nA_rev (W : List Nat) : nA W.reverse = nA W := List.countP_reverse
theorem nB_rev (W : List Nat) : nB W.reverse = nB W := List.countP_reverse
theorem nC_rev (W : List Nat) : nC W.reverse = nC W := List.countP_reverse
/-- bases: positions from p on, each once -/
theorem wtB_ge (L Q : Nat → Int32) : ∀ W a p, ∀ o ∈ wtB L Q W a p, p ≤ o.1 ∧ o.1 < p + nB W := by
  intro W
  induction W with
  | nil => intro a p o ho; cases ho
  | cons t W ih =>
    intro a p o ho
    unfold wtB at ho
    unfold nB at *
    rw [List.countP_cons]
    by_cases h1 : t = 1
    · rw [if_pos h1] at ho
      rcases List.mem_append.mp ho with ho | ho
      · unfold wt_b1 at ho
        split at ho
        · cases ho
        · rw [List.mem_singleton.mp ho]
          subst h1
          simp
      · have := ih _ _ o ho
        subst h1
        simp
        omega
    · rw [if_neg h1] at ho
      by_cases h2 : t = 2
      · rw [if_pos h2] at ho
        have := ih _ _ o ho
        subst h2
        simp
        omega
      · rw [if_neg h2] at ho
        have := ih _ _ o ho
        omega
theorem wtB_one (L Q : Nat → Int32) : ∀ W a p q, (at_B q (wtB L Q W a p)).length ≤ 1 := by
  intro W
  induction W with
  | nil => intro a p q; exact Nat.zero_le _
  | cons t W ih =>
    intro a p q
    unfold wtB
    by_cases h1 : t = 1
    · rw [if_pos h1, at_B_app, List.length_append]
      by_cases hq : q = p
      · rw [at_B_no (l := wtB L Q W (a + 1) (p + 1)) (fun o ho => by have := wtB_ge L Q W _ _ o ho; omega)]
        unfold wt_b1
        split
        · exact Nat.zero_le _
        · unfold at_B
          rw [List.length_map]
          exact List.length_filter_le _ _
      · have : at_B q (wt_b1 L Q a p) = [] := at_B_no (fun o ho => by
          unfold wt_b1 at ho
          split at ho
          · cases ho
          · rw [List.mem_singleton.mp ho]
            exact fun e => hq e.symm)
        rw [this]
        have := ih (a + 1) (p + 1) q
        simp
        exact this
    · rw [if_neg h1]
      split
      · exact ih _ _ _
      · exact ih _ _ _
theorem wt_one_mem {Q : Nat → Int32} {a lo pin : Nat} {last : Option (Nat × Nat)} {o : ob_K} (h : o ∈ wt_one Q a last lo pin) : ∃ a0 p0, last = some (a0, p0) ∧ o.1 = p0 := by
  unfold wt_one at h
  match last, h with
  | none, h => cases h
  | some (a0, p0), h =>
    simp only at h
    split at h
    · cases h
    · rw [List.mem_singleton.mp h]
      exact ⟨a0, p0, rfl, rfl⟩
theorem wtK_ge (L Q : Nat → Int32) : ∀ W a p last lo pin, (∀ a0 p0, last = some (a0, p0) → p0 < p) → ∀ o ∈ wtK L Q W a p last lo pin, (last = none → p ≤ o.1) ∧ (∀ a0 p0, last = some (a0, p0) → p0 ≤ o.1) ∧ o.1 + 1 < p + nB W := by
  intro W
  induction W with
  | nil => intro a p last lo pin _ o ho; cases ho
  | cons t W ih =>
    intro a p last lo pin hlast o ho
    unfold wtK at ho
    unfold nB at *
    rw [List.countP_cons]
    by_cases h1 : t = 1
    · rw [if_pos h1] at ho
      subst h1
      rcases List.mem_append.mp ho with ho | ho
      · obtain ⟨a0, p0, e, e2⟩ := wt_one_mem ho
        have := hlast a0 p0 e
        refine ⟨fun hn => (by rw [e] at hn; cases hn), fun a1 p1 e1 => ?_, (by simp; omega)⟩
        rw [e] at e1
        cases e1
        omega
      · obtain ⟨-, i2, i3⟩ := ih _ _ _ _ _ (fun a0 p0 e => by cases e; omega) o ho
        have := i2 a p rfl
        refine ⟨fun _ => this, fun a0 p0 e => ?_, by simp; omega⟩
        have := hlast a0 p0 e
        omega
    · rw [if_neg h1] at ho
      by_cases h2 : t = 2
      · rw [if_pos h2] at ho
        obtain ⟨i1, i2, i3⟩ := ih _ _ _ _ _ (fun a0 p0 e => by have := hlast a0 p0 e; omega) o ho
        subst h2
        exact ⟨fun e => by have := i1 e; omega, i2, by simp; omega⟩
      · rw [if_neg h2] at ho
        obtain ⟨i1, i2, i3⟩ := ih _ _ _ _ _ hlast o ho
        exact ⟨i1, i2, by omega⟩
theorem wtK_one (L Q : Nat → Int32) : ∀ W a p last lo pin q, (∀ a0 p0, last = some (a0, p0) → p0 < p) → (at_K q (wtK L Q W a p last lo pin)).length ≤ 1 := by
  intro W
  induction W with
  | nil => intro a p last lo pin q _; exact Nat.zero_le _
  | cons t W ih =>
    intro a p last lo pin q hlast
    unfold wtK
    by_cases h1 : t = 1
    · rw [if_pos h1, at_K_app, List.length_append]
      have hl1 : (wt_one Q a last lo pin).length ≤ 1 := by
        unfold wt_one
        split
        · exact Nat.zero_le _
        · split
          · exact Nat.zero_le _
          · exact Nat.le_refl _
      have h2 := ih (a + 1) (p + 1) (some (a, p)) 0 1 q (fun a0 p0 e => by cases e; omega)
      by_cases hq : ∃ a0, last = some (a0, q)
      · obtain ⟨a0, e⟩ := hq
        rw [at_K_no (l := wtK L Q W (a + 1) (p + 1) (some (a, p)) 0 1) (fun o ho => by
          have := (wtK_ge L Q W _ _ _ _ _ (fun a0 p0 e => by cases e; omega) o ho).2.1 a p rfl
          have := hlast a0 q e
          omega)]
        have : (at_K q (wt_one Q a last lo pin)).length ≤ (wt_one Q a last lo pin).length := by
          unfold at_K
          rw [List.length_map]
          exact List.length_filter_le _ _
        simp
        omega
      · rw [at_K_no (l := wt_one Q a last lo pin) (fun o ho e => by
          obtain ⟨a0, p0, e1, e2⟩ := wt_one_mem ho
          exact hq ⟨a0, by rw [e1, ← e2, e]⟩)]
        simp
        exact h2
    · rw [if_neg h1]
      by_cases h2 : t = 2
      · rw [if_pos h2]
        exact ih _ _ _ _ _ _ (fun a0 p0 e => by have := hlast a0 p0 e; omega)
      · rw [if_neg h2]
        exact ih _ _ _ _ _ _ hlast

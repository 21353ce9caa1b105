/-! WHAT A READ SHOWS IS SOUND: bases, links, qualities, and few changes -/
/-- what a way costs: c at a match, 1 at a change -/
def cw (c : Nat → Nat → Nat) : List Nat → Nat → Nat → Nat
  | [], _, _ => 0
  | t :: W, a, b => if t = 1 then c a b + cw c W (a + 1) (b + 1) else if t = 2 then 1 + cw c W a (b + 1) else 1 + cw c W (a + 1) b
theorem cw_app (c : Nat → Nat → Nat) (t : Nat) : ∀ W a b, (∀ t ∈ W, t = 1 ∨ t = 2 ∨ t = 3) → cw c (W ++ [t]) a b = cw c W a b + (if t = 1 then c (a + nA W) (b + nB W) else 1) := by
  intro W
  induction W with
  | nil =>
    intro a b _
    show cw c [t] a b = 0 + (if t = 1 then c (a + 0) (b + 0) else 1)
    unfold cw
    by_cases h : t = 1
    · rw [if_pos h, if_pos h]
      show c a b + 0 = 0 + c a b
      omega
    · rw [if_neg h, if_neg h]
      split <;> rfl
  | cons u W ih =>
    intro a b hW
    have hu := hW u List.mem_cons_self
    have hW' : ∀ t ∈ W, t = 1 ∨ t = 2 ∨ t = 3 := fun t ht => hW t (List.mem_cons_of_mem _ ht)
    show cw c (u :: (W ++ [t])) a b = cw c (u :: W) a b + (if t = 1 then c (a + nA (u :: W)) (b + nB (u :: W)) else 1)
    rw [nA_cons, nB_cons]
    rcases hu with rfl | rfl | rfl
    · show c a b + cw c (W ++ [t]) (a + 1) (b + 1) = c a b + cw c W (a + 1) (b + 1) + (if t = 1 then c (a + (nA W + 1)) (b + (nB W + 1)) else 1)
      rw [ih _ _ hW', show a + 1 + nA W = a + (nA W + 1) by omega, show b + 1 + nB W = b + (nB W + 1) by omega]
      omega
    · show 1 + cw c (W ++ [t]) a (b + 1) = 1 + cw c W a (b + 1) + (if t = 1 then c (a + nA W) (b + (nB W + 1)) else 1)
      rw [ih _ _ hW', show b + 1 + nB W = b + (nB W + 1) by omega]
      omega
    · show 1 + cw c (W ++ [t]) (a + 1) b = 1 + cw c W (a + 1) b + (if t = 1 then c (a + (nA W + 1)) (b + nB W) else 1)
      rw [ih _ _ hW', show a + 1 + nA W = a + (nA W + 1) by omega]
      omega
theorem cw_tb (c : Nat → Nat → Nat) : ∀ n a b, a + b = n → cw c (tb c a b).reverse 0 0 = dp c a b := by
  intro n
  induction n using Nat.strongRecOn with
  | ind n ih =>
    intro a b hn
    by_cases h0 : a = 0 ∧ b = 0
    · obtain ⟨rfl, rfl⟩ := h0
      rfl
    · have hab : 0 < a ∨ 0 < b := by omega
      have hl := tb_less c hab
      have i1 := ih _ (by omega) (tb_a (tb_st c a b) a) (tb_b (tb_st c a b) b) rfl
      obtain ⟨j1, j2, -, j4⟩ := tb_counts c _ (tb_a (tb_st c a b) a) (tb_b (tb_st c a b) b) rfl
      rw [tb_cons c hab, List.reverse_cons, cw_app _ _ _ _ _ (fun t ht => j4 t (List.mem_reverse.mp ht)), i1, nA_rev, nB_rev, j1, j2]
      unfold tb_a tb_b
      rcases tb_cost c hab with ⟨e, h1, h2, h3⟩ | ⟨e, h1, h3⟩ | ⟨e, h1, h3⟩
      · rw [e]
        show dp c (a - 1) (b - 1) + c (0 + (a - 1)) (0 + (b - 1)) = _
        rw [Nat.zero_add, Nat.zero_add]
        exact h3.symm
      · rw [e]
        exact h3.symm
      · rw [e]
        exact h3.symm
/-- bases that aren't the reference's, links that aren't plain -/
def xB (g : Nat → Int32) (B : List ob_B) : Nat := B.countP (fun o => !(o.2.1 == g o.1))
def xK (K : List ob_K) : Nat := K.countP (fun o => !(o.2.1 == 0))
theorem xB_app (g : Nat → Int32) (A B : List ob_B) : xB g (A ++ B) = xB g A + xB g B := List.countP_append
theorem xK_app (A B : List ob_K) : xK (A ++ B) = xK A + xK B := List.countP_append
theorem wt_x {L Q g : Nat → Int32} {s : Nat} : ∀ W a b last lo pin, xB g (wtB L Q W a (s + b)) + xK (wtK L Q W a (s + b) last lo pin) ≤ cw (dp_c L g s) W a b + (if lo = 0 ∧ pin = 1 then 0 else 1) := by
  intro W
  induction W with
  | nil => intro a b last lo pin; exact Nat.zero_le _
  | cons t W ih =>
    intro a b last lo pin
    unfold wtB wtK cw
    by_cases h1 : t = 1
    · rw [if_pos h1, if_pos h1, if_pos h1, xB_app, xK_app]
      have i1 := ih (a + 1) (b + 1) (some (a, s + b)) 0 1
      rw [if_pos ⟨rfl, rfl⟩] at i1
      have i2 : xB g (wt_b1 L Q a (s + b)) ≤ dp_c L g s a b := by
        unfold wt_b1 dp_c
        split
        · exact Nat.zero_le _
        · unfold xB
          by_cases e : L a = g (s + b)
          · rw [if_pos e, List.countP_cons]
            simp [e]
          · rw [if_neg e]
            exact List.countP_le_length
      have i3 : xK (wt_one Q a last lo pin) ≤ (if lo = 0 ∧ pin = 1 then 0 else 1) := by
        unfold wt_one
        match last with
        | none => exact Nat.zero_le _
        | some (a0, p0) =>
          simp only
          by_cases e : lo = 0 ∧ pin = 1
          · obtain ⟨rfl, rfl⟩ := e
            rw [if_pos ⟨rfl, rfl⟩]
            exact Nat.le_refl _
          · rw [if_neg e]
            unfold xK
            split
            · exact Nat.zero_le _
            · exact List.countP_le_length
      rw [show s + b + 1 = s + (b + 1) by omega]
      omega
    · rw [if_neg h1, if_neg h1, if_neg h1]
      by_cases h2 : t = 2
      · rw [if_pos h2, if_pos h2, if_pos h2]
        have i1 := ih a (b + 1) last (lo + 1) pin
        rw [if_neg (by omega)] at i1
        rw [show s + b + 1 = s + (b + 1) by omega]
        omega
      · rw [if_neg h2, if_neg h2, if_neg h2]
        have i1 := ih (a + 1) b last lo (wt_wl pin (L a))
        have : (if lo = 0 ∧ wt_wl pin (L a) = 1 then 0 else 1) ≤ 1 := by split <;> omega
        omega
/-- sound observations -/
def ok_B (len : Nat) (B : List ob_B) : Prop := ∀ o ∈ B, o.1 < len ∧ ∃ b q : Nat, b < 4 ∧ q ≤ 93 ∧ o.2.1 = nI b ∧ o.2.2 = nI q
def ok_K (len : Nat) (K : List ob_K) : Prop := ∀ o ∈ K, o.1 + 1 < len ∧ lk_V o.2.1 ∧ (o.2.1 < 4 → o.1 + o.2.1 + 1 < len) ∧ ∃ q : Nat, q ≤ 93 ∧ o.2.2 = nI q
theorem wtB_ok {L Q : Nat → Int32} {n len : Nat} (hL : ∀ z, z < n → ∃ v : Nat, v ≤ 4 ∧ L z = nI v) (hQ : ∀ z, z < n → ∃ v : Nat, v ≤ 93 ∧ Q z = nI v) : ∀ W a p, (∀ t ∈ W, t = 1 ∨ t = 2 ∨ t = 3) → a + nA W ≤ n → p + nB W ≤ len → ok_B len (wtB L Q W a p) ∧ (wtB L Q W a p).length ≤ nA W := by
  intro W
  induction W with
  | nil => intro a p _ _ _; exact ⟨(fun o ho => by cases ho), Nat.zero_le _⟩
  | cons t W ih =>
    intro a p hW hA hB
    have hW' : ∀ t ∈ W, t = 1 ∨ t = 2 ∨ t = 3 := fun t ht => hW t (List.mem_cons_of_mem _ ht)
    rw [nA_cons] at hA ⊢
    rw [nB_cons] at hB
    rcases hW t List.mem_cons_self with rfl | rfl | rfl
    · have hA : a + (nA W + 1) ≤ n := hA
      have hB : p + (nB W + 1) ≤ len := hB
      obtain ⟨i1, i2⟩ := ih (a + 1) (p + 1) hW' (by omega) (by omega)
      show ok_B len (wt_b1 L Q a p ++ wtB L Q W (a + 1) (p + 1)) ∧ (wt_b1 L Q a p ++ wtB L Q W (a + 1) (p + 1)).length ≤ nA W + 1
      rw [List.length_append]
      unfold wt_b1
      by_cases e : L a = 4
      · rw [if_pos e]
        exact ⟨i1, by simp; omega⟩
      · rw [if_neg e]
        refine ⟨fun o ho => ?_, by simp; omega⟩
        rcases List.mem_append.mp ho with ho | ho
        · rw [List.mem_singleton.mp ho]
          obtain ⟨v, v1, v2⟩ := hL a (by omega)
          obtain ⟨q, q1, q2⟩ := hQ a (by omega)
          refine ⟨by show p < len; omega, v, q, ?_, q1, v2, q2⟩
          rcases (show v < 4 ∨ v = 4 by omega) with z | z
          · exact z
          · rw [v2, z] at e
            exact absurd rfl e
        · exact i1 o ho
    · exact ih a (p + 1) hW' hA (by have hB : p + (nB W + 1) ≤ len := hB; omega)
    · have hA : a + (nA W + 1) ≤ n := hA
      obtain ⟨i1, i2⟩ := ih (a + 1) p hW' (by omega) hB
      exact ⟨i1, Nat.le_trans i2 (Nat.le_add_right _ _)⟩
/-- the letters put in, as a number: u letters, or one of them N -/
def pn_V (u pin : Nat) : Prop := pin = 0 ∨ (4 ^ u ≤ pin ∧ pin < 2 * 4 ^ u)
theorem pn_wl {u pin v : Nat} (h : pn_V u pin) (hv : v ≤ 4) : pn_V (u + 1) (wt_wl pin (nI v)) := by
  unfold wt_wl
  split
  · exact Or.inl rfl
  · rename_i hne
    have h0 : pin ≠ 0 := fun e => hne (Or.inl e)
    have h4 : v ≠ 4 := fun e => hne (Or.inr (by rw [e]; rfl))
    rw [nI_clamp (by omega)]
    rcases h with h | ⟨h1, h2⟩
    · exact absurd h h0
    · have : 4 ^ (u + 1) = 4 ^ u * 4 := Nat.pow_succ ..
      exact Or.inr ⟨by omega, by omega⟩
theorem pn_lk {u pin lo g : Nat} (h : pn_V u pin) (hu : lo + u ≤ 3) (hg : wt_lk lo pin = some g) : lk_V g ∧ (g < 4 → g = lo) := by
  unfold wt_lk at hg
  unfold lk_V
  by_cases e : pin = 1
  · rw [if_pos e] at hg
    cases hg
    omega
  · rw [if_neg e] at hg
    split at hg
    · cases hg
    · rename_i hn
      cases hg
      rcases h with h | ⟨h1, h2⟩
      · exact absurd (Or.inr h) hn
      · rcases (show u = 0 ∨ u = 1 ∨ u = 2 ∨ u = 3 by omega) with rfl | rfl | rfl | rfl
        · have h1 : 1 ≤ pin := h1
          have h2 : pin < 2 := h2
          omega
        · have h1 : 4 ≤ pin := h1
          have h2 : pin < 8 := h2
          omega
        · have h1 : 16 ≤ pin := h1
          have h2 : pin < 32 := h2
          omega
        · have h1 : 64 ≤ pin := h1
          have h2 : pin < 128 := h2
          omega
theorem wt_min_ok {x y : Int32} (hx : ∃ v : Nat, v ≤ 93 ∧ x = nI v) (hy : ∃ v : Nat, v ≤ 93 ∧ y = nI v) : ∃ v : Nat, v ≤ 93 ∧ wt_min x y = nI v := by
  unfold wt_min
  split
  · exact hy
  · exact hx
theorem wtK_ok {L Q : Nat → Int32} {n len : Nat} (hL : ∀ z, z < n → ∃ v : Nat, v ≤ 4 ∧ L z = nI v) (hQ : ∀ z, z < n → ∃ v : Nat, v ≤ 93 ∧ Q z = nI v) : ∀ W a p last lo u pin, (∀ t ∈ W, t = 1 ∨ t = 2 ∨ t = 3) → a + nA W ≤ n → p + nB W ≤ len → lo + u + nC W ≤ 3 → pn_V u pin → (∀ a0 p0, last = some (a0, p0) → a0 < n ∧ p0 + lo + 1 = p) → ok_K len (wtK L Q W a p last lo pin) ∧ (wtK L Q W a p last lo pin).length ≤ nA W := by
  intro W
  induction W with
  | nil => intro a p last lo u pin _ _ _ _ _ _; exact ⟨(fun o ho => by cases ho), Nat.zero_le _⟩
  | cons t W ih =>
    intro a p last lo u pin hW hA hB hC hp hl
    have hW' : ∀ t ∈ W, t = 1 ∨ t = 2 ∨ t = 3 := fun t ht => hW t (List.mem_cons_of_mem _ ht)
    rw [nA_cons] at hA ⊢
    rw [nB_cons] at hB
    rw [nC_cons] at hC
    rcases hW t List.mem_cons_self with rfl | rfl | rfl
    · have hA : a + (nA W + 1) ≤ n := hA
      have hB : p + (nB W + 1) ≤ len := hB
      have hC : lo + u + (nC W + 0) ≤ 3 := hC
      obtain ⟨i1, i2⟩ := ih (a + 1) (p + 1) (some (a, p)) 0 0 1 hW' (by omega) (by omega) (by omega) (Or.inr ⟨by decide, by decide⟩) (fun a0 p0 e => by cases e; omega)
      show ok_K len (wt_one Q a last lo pin ++ wtK L Q W (a + 1) (p + 1) (some (a, p)) 0 1) ∧ (wt_one Q a last lo pin ++ wtK L Q W (a + 1) (p + 1) (some (a, p)) 0 1).length ≤ nA W + 1
      rw [List.length_append]
      unfold wt_one
      match last, hl with
      | none, _ => exact ⟨i1, by simp; omega⟩
      | some (a0, p0), hl =>
        obtain ⟨l1, l2⟩ := hl a0 p0 rfl
        simp only
        split
        · exact ⟨i1, by simp; omega⟩
        · rename_i g eg
          obtain ⟨g1, g2⟩ := pn_lk hp (by omega) eg
          refine ⟨fun o ho => ?_, by simp; omega⟩
          rcases List.mem_append.mp ho with ho | ho
          · rw [List.mem_singleton.mp ho]
            refine ⟨by show p0 + 1 < len; omega, g1, fun h4 => ?_, wt_min_ok (hQ a0 l1) (hQ a (by omega))⟩
            have := g2 h4
            show p0 + g + 1 < len
            omega
          · exact i1 o ho
    · have hB : p + (nB W + 1) ≤ len := hB
      have hC : lo + u + (nC W + 1) ≤ 3 := hC
      exact ih a (p + 1) last (lo + 1) u pin hW' hA (by omega) (by omega) hp (fun a0 p0 e => by have := hl a0 p0 e; omega)
    · have hA : a + (nA W + 1) ≤ n := hA
      have hC : lo + u + (nC W + 1) ≤ 3 := hC
      obtain ⟨v, v1, v2⟩ := hL a (by omega)
      obtain ⟨i1, i2⟩ := ih (a + 1) p last lo (u + 1) (wt_wl pin (L a)) hW' (by omega) hB (by omega) (by rw [v2]; exact pn_wl hp v1) hl
      exact ⟨i1, Nat.le_trans i2 (Nat.le_add_right _ _)⟩
/-- all of one read -/
theorem wt_read {L Q g : Nat → Int32} {n len s e K : Nat} {T : List Nat} (hL : ∀ z, z < n → ∃ v : Nat, v ≤ 4 ∧ L z = nI v) (hQ : ∀ z, z < n → ∃ v : Nat, v ≤ 93 ∧ Q z = nI v) (hse : s < e) (hel : e ≤ len) (hd : dp (dp_c L g s) n (e - s) = K) (hK : K ≤ 3) (hT : T = tb (dp_c L g s) n (e - s)) :
    (nA T = n ∧ s + nB T = e ∧ nC T ≤ 3 ∧ T.length ≤ n + 3 ∧ ∀ t ∈ T, t = 1 ∨ t = 2 ∨ t = 3) ∧ ok_B len (wtB L Q T.reverse 0 s) ∧ ok_K len (wtK L Q T.reverse 0 s none 0 1) ∧ (wtB L Q T.reverse 0 s).length ≤ n ∧ (wtK L Q T.reverse 0 s none 0 1).length ≤ n ∧ xB g (wtB L Q T.reverse 0 s) + xK (wtK L Q T.reverse 0 s none 0 1) ≤ 3 := by
  obtain ⟨c1, c2, c3, c4⟩ := tb_counts (dp_c L g s) _ n (e - s) rfl
  have c5 := tb_len (dp_c L g s) _ n (e - s) rfl
  have c6 := cw_tb (dp_c L g s) _ n (e - s) rfl
  rw [← hT] at c1 c2 c3 c4 c5 c6
  rw [hd] at c3 c5 c6
  have r4 : ∀ t ∈ T.reverse, t = 1 ∨ t = 2 ∨ t = 3 := fun t ht => c4 t (List.mem_reverse.mp ht)
  obtain ⟨b1, b2⟩ := wtB_ok hL hQ (len := len) T.reverse 0 s r4 (by rw [nA_rev]; omega) (by rw [nB_rev]; omega)
  obtain ⟨k1, k2⟩ := wtK_ok hL hQ (len := len) T.reverse 0 s none 0 0 1 r4 (by rw [nA_rev]; omega) (by rw [nB_rev]; omega) (by rw [nC_rev]; omega) (Or.inr ⟨by decide, by decide⟩) (fun a0 p0 e => by cases e)
  rw [nA_rev] at b2 k2
  have x1 := wt_x (L := L) (Q := Q) (g := g) (s := s) T.reverse 0 0 none 0 1
  rw [if_pos ⟨rfl, rfl⟩, c6] at x1
  exact ⟨⟨c1, by omega, by omega, by omega, c4⟩, b1, k1, by omega, by omega, by rw [Nat.add_zero] at x1; omega⟩

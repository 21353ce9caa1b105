/-! DISTANCES: the full table (dp) and a band of it -/
def dp_row (c : Nat → Nat → Nat) (i : Nat) (p : Nat → Nat) : Nat → Nat
  | 0 => i + 1
  | j + 1 => min (p j + c i j) (min (p (j + 1)) (dp_row c i p j) + 1)
/-- the distance of the first i letters and the first j positions; c i j: 0 where letter i is position j's, else 1 -/
def dp (c : Nat → Nat → Nat) : Nat → Nat → Nat
  | 0 => fun j => j
  | i + 1 => dp_row c i (dp c i)
theorem dp_0 (c : Nat → Nat → Nat) (j : Nat) : dp c 0 j = j := rfl
theorem dp_z (c : Nat → Nat → Nat) (i : Nat) : dp c i 0 = i := by cases i <;> rfl
theorem dp_s (c : Nat → Nat → Nat) (i j : Nat) : dp c (i + 1) (j + 1) = min (dp c i j + c i j) (min (dp c i (j + 1)) (dp c (i + 1) j) + 1) := rfl
theorem dp_lo (c : Nat → Nat → Nat) : ∀ i j : Nat, i ≤ dp c i j + j ∧ j ≤ dp c i j + i := by
  intro i
  induction i with
  | zero => intro j; rw [dp_0]; omega
  | succ i ih =>
    intro j
    induction j with
    | zero => rw [dp_z]; omega
    | succ j jh =>
      rw [dp_s]
      have h1 := ih j
      have h2 := ih (j + 1)
      omega
theorem dp_hi (c : Nat → Nat → Nat) (hc : ∀ a b, c a b ≤ 1) : ∀ i j : Nat, dp c i j ≤ i + j := by
  intro i
  induction i with
  | zero => intro j; rw [dp_0]; omega
  | succ i ih =>
    intro j
    cases j with
    | zero => rw [dp_z]; omega
    | succ j =>
      rw [dp_s]
      have h1 := ih j
      have h2 := hc i j
      omega
/-- where a row is above K, so is the next -/
theorem dp_up {c : Nat → Nat → Nat} {K w i : Nat} (h : ∀ j, j ≤ w → K < dp c i j) : ∀ j, j ≤ w → K < dp c (i + 1) j := by
  intro j
  induction j with
  | zero => intro _; have := h 0 (Nat.zero_le _); rw [dp_z] at *; omega
  | succ j ih =>
    intro hj
    have h1 := h j (by omega)
    have h2 := h (j + 1) hj
    have h3 := ih (by omega)
    rw [dp_s]
    omega
theorem dp_ups {c : Nat → Nat → Nat} {K w i : Nat} (h : ∀ j, j ≤ w → K < dp c i j) : ∀ n, i ≤ n → ∀ j, j ≤ w → K < dp c n j := by
  intro n
  induction n with
  | zero => intro hn; rw [show i = 0 by omega] at h; exact h
  | succ n ih =>
    intro hn
    by_cases e : i = n + 1
    · subst e; exact h
    · exact dp_up (ih (by omega))
/-- the same up to K: equal, or both above -/
def dp_eq (K x y : Nat) : Prop := (x ≤ K ∨ y ≤ K) → x = y
/-- a row of the band holds the distances up to K -/
def dp_ok (c : Nat → Nat → Nat) (K w i : Nat) (b : Nat → Nat) : Prop := ∀ j, j ≤ w → j ≤ i + K + 1 → i ≤ j + K + 1 → dp_eq K (b j) (dp c i j)
theorem dp_eq_min {K a b x y : Nat} (h1 : dp_eq K a x) (h2 : dp_eq K b y) : dp_eq K (min a b) (min x y) := by
  unfold dp_eq at *
  omega
theorem dp_eq_add {K a x n : Nat} (h : dp_eq K a x) : dp_eq K (a + n) (x + n) := by
  unfold dp_eq at *
  omega
theorem dp_eq_far {K a x : Nat} (h1 : K < a) (h2 : K < x) : dp_eq K a x := by
  unfold dp_eq
  omega
theorem dp_cell {c : Nat → Nat → Nat} {K a b d i j : Nat} (h1 : dp_eq K a (dp c i j)) (h2 : dp_eq K b (dp c i (j + 1))) (h3 : dp_eq K d (dp c (i + 1) j)) : dp_eq K (min (a + c i j) (min b d + 1)) (dp c (i + 1) (j + 1)) := by
  rw [dp_s]
  exact dp_eq_min (dp_eq_add h1) (dp_eq_add (dp_eq_min h2 h3))

/-! PLACES: the search as a fold over starts and ends -/
abbrev pl_Q : Type := Option (Nat × Nat × Nat × Nat × Nat × Nat)
/-- one interval from s to e on strand b at distance x; k: the most that counts. (least, start, end, strand, least end, greatest start) -/
def pl_step (k s e b x : Nat) : pl_Q → pl_Q
  | none => if x ≤ k then some (x, s, e, b, e, s) else none
  | some (l, f, t, bk, fe, ls) => if x < l then some (x, s, e, b, e, s) else if x = l then (if s < f ∨ (s = f ∧ e < t) then some (l, s, e, b, min fe e, max ls s) else some (l, f, t, bk, min fe e, max ls s)) else some (l, f, t, bk, fe, ls)
def pl_lim (k : Nat) : pl_Q → Nat
  | none => k
  | some q => q.1
theorem pl_step_id {k s e b x : Nat} {q : pl_Q} (h : pl_lim k q < x) : pl_step k s e b x q = q := by
  match q, h with
  | none, h => exact if_neg (Nat.not_le.mpr h)
  | some (l, f, t, bk, fe, ls), h =>
    have h : l < x := h
    show (if x < l then _ else _) = _
    rw [if_neg (by omega), if_neg (by omega)]
theorem pl_step_lim {k s e b x : Nat} {q : pl_Q} : pl_lim k (pl_step k s e b x q) ≤ pl_lim k q := by
  match q with
  | none =>
    show pl_lim k (if x ≤ k then _ else _) ≤ k
    split
    · assumption
    · exact Nat.le_refl _
  | some (l, f, t, bk, fe, ls) =>
    show pl_lim k (if x < l then _ else _) ≤ l
    split
    · exact Nat.le_of_lt (by assumption)
    · split
      · split <;> exact Nat.le_refl _
      · exact Nat.le_refl _
theorem pl_step_eq {k s e b x y K : Nat} {q : pl_Q} (h : dp_eq K x y) (hq : pl_lim k q ≤ K) : pl_step k s e b x q = pl_step k s e b y q := by
  by_cases hx : x ≤ K ∨ y ≤ K
  · rw [h hx]
  · rw [pl_step_id (by omega), pl_step_id (by omega)]
/-- all ends s + 1 .. s + n of a start -/
def pl_row (k s b : Nat) (D : Nat → Nat) : Nat → pl_Q → pl_Q
  | 0, q => q
  | n + 1, q => pl_step k s (s + (n + 1)) b (D (n + 1)) (pl_row k s b D n q)
theorem pl_row_lim {k s b : Nat} {D : Nat → Nat} {q : pl_Q} : ∀ n, pl_lim k (pl_row k s b D n q) ≤ pl_lim k q := by
  intro n
  induction n with
  | zero => exact Nat.le_refl _
  | succ n ih => exact Nat.le_trans pl_step_lim ih
theorem pl_row_skip {k s b K : Nat} {D : Nat → Nat} {q : pl_Q} (hq : pl_lim k q ≤ K) {m : Nat} : ∀ n, m ≤ n → (∀ j, m < j → j ≤ n → K < D j) → pl_row k s b D n q = pl_row k s b D m q := by
  intro n
  induction n with
  | zero => intro h _; rw [show m = 0 by omega]
  | succ n ih =>
    intro h hD
    by_cases e : m = n + 1
    · rw [e]
    · show pl_step k s _ b (D (n + 1)) (pl_row k s b D n q) = _
      have h1 := hD (n + 1) (by omega) (Nat.le_refl _)
      have h2 : pl_lim k (pl_row k s b D n q) ≤ pl_lim k q := pl_row_lim n
      rw [pl_step_id (by omega)]
      exact ih (by omega) (fun j a1 a2 => hD j a1 (by omega))
/-- all starts s .. len - 1 -/
def pl_all (k b n len : Nat) (f g : Nat → Int32) : Nat → Nat → pl_Q → pl_Q
  | 0, _, q => q
  | m + 1, s, q => pl_all k b n len f g m (s + 1) (pl_row k s b (dp (dp_c f g s) n) (min (len - s) 19) q)
/-- what the aligner holds -/
def pq_S (i : o_I) (al k : Nat) : pl_Q → Prop
  | none => i al 1 = nI k ∧ i al 2 = 0
  | some (l, f, t, b, fe, ls) => i al 1 = nI l ∧ i al 2 = 1 ∧ i al 3 = nI f ∧ i al 4 = nI t ∧ i al 5 = nI b ∧ i al 6 = nI fe ∧ i al 7 = nI ls ∧ l ≤ k ∧ f ≤ 100 ∧ t ≤ 100 ∧ b ≤ 1 ∧ fe ≤ 100 ∧ ls ≤ 100
theorem pq_lim {i : o_I} {al k : Nat} {q : pl_Q} (h : pq_S i al k q) : i al 1 = nI (pl_lim k q) ∧ pl_lim k q ≤ k := by
  match q, h with
  | none, h => exact ⟨h.1, Nat.le_refl _⟩
  | some (l, f, t, b, fe, ls), h => exact ⟨h.1, h.2.2.2.2.2.2.2.1⟩
theorem pq_same {i j : o_I} {al k : Nat} {q : pl_Q} (h : pq_S i al k q) (e : ∀ n, 1 ≤ n → n ≤ 7 → j al n = i al n) : pq_S j al k q := by
  match q, h with
  | none, h => exact ⟨by rw [e 1 (by omega) (by omega)]; exact h.1, by rw [e 2 (by omega) (by omega)]; exact h.2⟩
  | some (l, f, t, b, fe, ls), h =>
    obtain ⟨h1, h2, h3, h4, h5, h6, h7, hr⟩ := h
    exact ⟨by rw [e 1 (by omega) (by omega)]; exact h1, by rw [e 2 (by omega) (by omega)]; exact h2, by rw [e 3 (by omega) (by omega)]; exact h3, by rw [e 4 (by omega) (by omega)]; exact h4, by rw [e 5 (by omega) (by omega)]; exact h5, by rw [e 6 (by omega) (by omega)]; exact h6, by rw [e 7 (by omega) (by omega)]; exact h7, hr⟩
theorem c_consider {G : o_G} {d : Nat} {i : o_I} {r : o_R} {post : o_I → Prop} {al k s e x b : Nat} {q : pl_Q} (hO : o_O G al 1) (hq : pq_S i al k q) (hk : k ≤ 3) (hs : s ≤ 100) (he : e ≤ 100) (hx : x ≤ 2000) (hb : b ≤ 1) (h : ∀ j, pq_S j al k (pl_step k s e b x q) → (∀ a n, a ≠ al → j a n = i a n) → (∀ n, n = 0 ∨ 8 ≤ n → j al n = i al n) → post j) : SpV G (d + 1) mX1_consider [.ref al, .int (nI s), .int (nI e), .int (nI x), .int (nI b)] post i r := by
  obtain ⟨hl1, hl2⟩ := pq_lim hq
  have hb01 : nI b = 0 ∨ nI b = 1 := by
    rcases (show b = 0 ∨ b = 1 by omega) with rfl | rfl
    · exact Or.inl rfl
    · exact Or.inr rfl
  -- the last three writes
  have fin : ∀ j : o_I, (∀ j3 : o_I, j3 = o_up (o_up (o_up j al 3 (nI s)) al 4 (nI e)) al 5 (nI b) → post j3) → Ok G (d + 1) mX1_consider (fun v j q => q = r ∧ v = none ∧ post j) 112 [some (.ref al), some (.int (nI s)), some (.int (nI e)), none, some (.int (nI b)), none] [] j r := by
    intro j hj
    refine sX1_consider_112 al _ _ _ ⟨hO, fun i2 e2 i3 e3 => ⟨hb01, fun i4 e4 => o_rv (hj i4 ?_)⟩⟩
    rw [e4, e3, e2]
  refine sp_of 1 (by decide +kernel) (Nat.le_of_ble_eq_true rfl) rfl (sX1_consider_0 al _ _ _ _ ⟨hO, fun hle => ?_, fun hle => ?_⟩)
  · rw [hl1, nI_leI (by omega) (by omega)] at hle
    intro x5 e5 i6 e6 i7 e7 x9 e9 i10 e10 x12 e12 i13 e13
    -- better: all is new
    have better : x5 = 1 → pl_step k s e b x q = some (x, s, e, b, e, s) → x ≤ k → ((¬ x5 = 0 → Ok G (d + 1) mX1_consider (fun v j q => q = r ∧ v = none ∧ post j) 112 [some (.ref al), some (.int (nI s)), some (.int (nI e)), none, some (.int (nI b)), none] [] i13 r)) := by
      intro h5 hst hxk _
      rw [h5, if_neg (by decide)] at e9 e12
      refine fin i13 (fun j3 ej => h j3 ?_ (fun a n ha => ?_) (fun n hn => ?_))
      · rw [hst, ej, e13, e10, e7, e6, e9, e12]
        exact ⟨by simp [o_up], by simp [o_up], by simp [o_up], by simp [o_up], by simp [o_up], by simp [o_up], by simp [o_up], hxk, hs, he, hb, he, hs⟩
      · rw [ej, e13, e10, e7, e6]
        simp [o_up, ha]
      · rw [ej, e13, e10, e7, e6]
        rcases hn with rfl | hn
        · simp [o_up]
        · simp [o_up, show n ≠ 1 by omega, show n ≠ 2 by omega, show n ≠ 3 by omega, show n ≠ 4 by omega, show n ≠ 5 by omega, show n ≠ 6 by omega, show n ≠ 7 by omega]
    match q, hq, hl1, hl2, hle, better with
    | none, hq, hl1, hl2, hle, better =>
      have h5 : x5 = 1 := by rw [e5, if_pos hq.2]
      refine ⟨better h5 ?_ hle, fun h0 => absurd (h5.symm.trans h0) (by decide)⟩
      exact if_pos hle
    | some (l, f, t, bk, fe, ls), hq, hl1, hl2, hle, better =>
      obtain ⟨q1, q2, q3, q4, q5, q6, q7, q8, q9, q10, q11, q12, q13⟩ := hq
      have hle : x ≤ l := hle
      rw [q2, if_neg (by decide), q1] at e5
      by_cases hlt : x < l
      · have h5 : x5 = 1 := by rw [e5, if_neg (nI_ge hlt (by omega))]
        refine ⟨better h5 ?_ (by omega), fun h0 => absurd (h5.symm.trans h0) (by decide)⟩
        show (if x < l then _ else _) = _
        rw [if_pos hlt]
      · have hxl : x = l := by omega
        have h5 : x5 = 0 := by rw [e5, if_pos (nI_le (by omega) (by omega))]
        have v6 : i7 al 6 = nI fe := by rw [e7, e6]; simp [o_up, q6]
        have v7 : i10 al 7 = nI ls := by rw [e10, e7, e6]; simp [o_up, q7]
        rw [h5, if_pos rfl, v6, nI_min (by omega) (by omega)] at e9
        rw [h5, if_pos rfl, v7, nI_max (by omega) (by omega)] at e12
        have w3 : i13 al 3 = nI f := by rw [e13, e10, e7, e6]; simp [o_up, q3]
        have w4 : i13 al 4 = nI t := by rw [e13, e10, e7, e6]; simp [o_up, q4]
        have w1 : i13 al 1 = nI l := by rw [e13, e10, e7, e6, hxl]; simp [o_up]
        have w2 : i13 al 2 = 1 := by rw [e13, e10, e7, e6]; simp [o_up]
        have w5 : i13 al 5 = nI bk := by rw [e13, e10, e7, e6]; simp [o_up, q5]
        have w6 : i13 al 6 = nI (min fe e) := by rw [e13, e10, e9]; simp [o_up]
        have w7 : i13 al 7 = nI (max ls s) := by rw [e13, e12]; simp [o_up]
        have wo : ∀ a n, a ≠ al → i13 a n = i a n := fun a n ha => by rw [e13, e10, e7, e6]; simp [o_up, ha]
        have wn : ∀ n, n = 0 ∨ 8 ≤ n → i13 al n = i al n := fun n hn => by
          rw [e13, e10, e7, e6]
          rcases hn with rfl | hn
          · simp [o_up]
          · simp [o_up, show n ≠ 1 by omega, show n ≠ 2 by omega, show n ≠ 6 by omega, show n ≠ 7 by omega]
        have st : ∀ X, (if s < f ∨ (s = f ∧ e < t) then some (l, s, e, b, min fe e, max ls s) else some (l, f, t, bk, min fe e, max ls s)) = X → pl_step k s e b x (some (l, f, t, bk, fe, ls)) = X := by
          intro X hX
          show (if x < l then _ else _) = _
          rw [if_neg hlt, if_pos hxl]
          exact hX
        have new : (s < f ∨ (s = f ∧ e < t)) → Ok G (d + 1) mX1_consider (fun v j q => q = r ∧ v = none ∧ post j) 112 [some (.ref al), some (.int (nI s)), some (.int (nI e)), none, some (.int (nI b)), none] [] i13 r := by
          intro hn
          refine fin i13 (fun j3 ej => h j3 ?_ (fun a n ha => ?_) (fun n hn => ?_))
          · rw [st _ (if_pos hn), ej]
            exact ⟨by simp [o_up, w1], by simp [o_up, w2], by simp [o_up], by simp [o_up], by simp [o_up], by simp [o_up, w6], by simp [o_up, w7], q8, hs, he, hb, by omega, by omega⟩
          · rw [ej]
            simp [o_up, ha, wo a n ha]
          · rw [ej, ← wn n hn]
            rcases hn with rfl | hn
            · simp [o_up]
            · simp [o_up, show n ≠ 3 by omega, show n ≠ 4 by omega, show n ≠ 5 by omega]
        have old : ¬ (s < f ∨ (s = f ∧ e < t)) → (r = r ∧ (none : Option Value) = none ∧ post i13) := by
          intro hn
          refine o_rv (h i13 ?_ wo wn)
          rw [st _ (if_neg hn)]
          exact ⟨w1, w2, w3, w4, w5, w6, w7, q8, q9, q10, q11, by omega, by omega⟩
        refine ⟨fun h0 => absurd h5 h0, fun _ => ?_⟩
        rw [w3, w4, nI_ltI (by omega) (by omega), nI_eq (by omega) (by omega), nI_leI (by omega) (by omega)]
        exact ⟨fun a1 => new (Or.inl a1), fun a1 => ⟨fun a2 => old (by omega), fun a2 => ⟨fun a3 => old (by omega), fun a3 => new (Or.inr ⟨a2, by omega⟩)⟩⟩⟩
  · rw [hl1, nI_leI (by omega) (by omega)] at hle
    exact o_rv (h i (by rw [pl_step_id (by omega)]; exact hq) (fun _ _ _ => rfl) (fun _ _ => rfl))

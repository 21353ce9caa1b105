/-! Read.turn: the other strand -/
def sq_op (x : Int32) : Int32 := if x = 4 then 4 else 3 - x
/-- the other strand's letters -/
def sq_tl (n : Nat) (f : Nat → Int32) : Nat → Int32 := fun k => if k < n then sq_op (f (n - 1 - k)) else f k
def sq_tq (n : Nat) (f : Nat → Int32) : Nat → Int32 := fun k => if k < n then f (n - 1 - k) else f k
theorem c_opposite {G : o_G} {d : Nat} {i : o_I} {r : o_R} {post : Int32 → o_I → Prop} {x : Int32} (h : post (sq_op x) i) : SpI G (d + 1) mX5_opposite [.int x] post i r := by
  refine sp_of 0 (by decide +kernel) (Nat.le_of_ble_eq_true rfl) rfl (sX5_opposite_0 x (fun z hz => ?_))
  rw [hz]
  exact o_ri h
/-- a letters done from each side -/
def sq_I (n a : Nat) (op : Int32 → Int32) (f g : Nat → Int32) : Prop := ∀ k, g k = if k < a ∨ (n - 1 - a < k ∧ k < n) then op (f (n - 1 - k)) else f k
theorem sq_step {n a : Nat} {op : Int32 → Int32} {f g g2 : Nat → Int32} (ha : a ≤ n - 1 - a) (h0 : 0 < n) (h : sq_I n a op f g) (h1 : g2 a = op (g (n - 1 - a))) (h2 : g2 (n - 1 - a) = op (g a)) (ho : ∀ k, k ≠ a → k ≠ n - 1 - a → g2 k = g k) : sq_I n (a + 1) op f g2 := by
  intro k
  have ga : g a = f a := by rw [h a, if_neg (by omega)]
  have gb : g (n - 1 - a) = f (n - 1 - a) := by rw [h (n - 1 - a), if_neg (by omega)]
  by_cases e1 : k = a
  · subst e1
    rw [h1, gb, if_pos (by omega)]
  · by_cases e2 : k = n - 1 - a
    · subst e2
      rw [h2, ga, if_pos (by omega), show n - 1 - (n - 1 - a) = a by omega]
    · rw [ho k e1 e2, h k]
      by_cases e : k < a ∨ (n - 1 - a < k ∧ k < n)
      · rw [if_pos e, if_pos (by omega)]
      · rw [if_neg e, if_neg (by omega)]
theorem sq_end {n a : Nat} {op : Int32 → Int32} {f g : Nat → Int32} (ha : n - 1 - a < a) (h0 : a < n) (h : sq_I n a op f g) : ∀ k, g k = if k < n then op (f (n - 1 - k)) else f k := by
  intro k
  rw [h k]
  by_cases e : k < n
  · rw [if_pos e, if_pos (by omega)]
  · rw [if_neg e, if_neg (by omega)]
theorem c_turn {G : o_G} {d : Nat} {i : o_I} {r : o_R} {post : o_I → Prop} {rd n : Nat} (hr : ly_rd G r rd) (hn : i rd 2 = nI n) (hn2 : 2 ≤ n) (hn16 : n ≤ 16) (h : ∀ j : o_I, j (rd + 1) = sq_tl n (i (rd + 1)) → j (rd + 2) = sq_tq n (i (rd + 2)) → (∀ b k, b ≠ rd + 1 → b ≠ rd + 2 → j b k = i b k) → post j) : SpV G (d + 2) mX5_turn [.ref rd] post i r := by
  obtain ⟨hO, e0, Z0, e1, Z1, -⟩ := hr
  have loop : ∀ m a j, a + m = n → a < n → sq_I n a sq_op (i (rd + 1)) (j (rd + 1)) → sq_I n a id (i (rd + 2)) (j (rd + 2)) → (∀ b k, b ≠ rd + 1 → b ≠ rd + 2 → j b k = i b k) → Ok G (d + 2) mX5_turn (fun v j q => q = r ∧ v = none ∧ post j) 9 [some (.ref rd), some (.int (nI (n - 1 - a))), some (.int (nI a)), none, none] [] j r := by
    intro m
    induction m with
    | zero => intro a j hm ha; omega
    | succ m ih =>
      intro a j hm ha hl hq hj
      refine sX5_turn_9 rd _ _ ⟨fun hlt => ?_, fun hlt => ?_⟩
      · rw [nI_ltI (by omega) (by omega)] at hlt
        exact o_rv (h j (funext (sq_end hlt (by omega) hl)) (funext (sq_end (op := id) hlt (by omega) hq)) hj)
      · rw [nI_ltI (by omega) (by omega)] at hlt
        rw [e0, e1, Z0.len, Z1.len, nI_clamp (n := a) (by omega), nI_clamp (n := n - 1 - a) (by omega)]
        refine ⟨hO, Z0.Y, vp_in_nI (by omega) (by decide), c_opposite ⟨vp_in_nI (by omega) (by decide), c_opposite (fun i8 e8 i9 e9 => ⟨Z1.Y, vp_in_nI (by omega) (by decide), fun x12 e12 => ⟨vp_in_nI (by omega) (by decide), fun i14 e14 i15 e15 x16 e16 x17 e17 => ?_⟩⟩)⟩⟩
        rw [e16, e17, nI_1, nI_m, nI_m1 (by omega), show n - 1 - a - 1 = n - 1 - (a + 1) by omega]
        refine ih (a + 1) i15 (by omega) (by omega) (sq_step (by omega) (by omega) hl ?_ ?_ ?_) (sq_step (by omega) (by omega) hq ?_ ?_ ?_) (fun b k h1 h2 => ?_)
        · rw [e15, o_up_a (by omega), e14, o_up_a (by omega), e9]
          by_cases e : a = n - 1 - a
          · rw [← e, o_up_s]
          · rw [o_up_k e, e8, o_up_s]
        · rw [e15, o_up_a (by omega), e14, o_up_a (by omega), e9, o_up_s]
        · intro k k1 k2
          rw [e15, o_up_a (by omega), e14, o_up_a (by omega), e9, o_up_k k2, e8, o_up_k k1]
        · rw [e15]
          by_cases e : a = n - 1 - a
          · rw [← e, o_up_s, e12, e9, o_up_a (by omega), e8, o_up_a (by omega)]
            rfl
          · rw [o_up_k e, e14, o_up_s, e9, o_up_a (by omega), e8, o_up_a (by omega)]
            rfl
        · rw [e15, o_up_s, e12, e9, o_up_a (by omega), e8, o_up_a (by omega)]
          rfl
        · intro k k1 k2
          rw [e15, o_up_k k2, e14, o_up_k k1, e9, o_up_a (by omega), e8, o_up_a (by omega)]
        · rw [e15, o_up_a h2, e14, o_up_a h2, e9, o_up_a h1, e8, o_up_a h1]
          exact hj b k h1 h2
  refine sp_of 4 (by decide +kernel) (Nat.le_of_ble_eq_true rfl) rfl (sX5_turn_0 rd ⟨hO, fun x2 e2 => ?_⟩)
  rw [e2, hn, nI_m1 (by omega)]
  exact loop n 0 i (by omega) (by omega) (fun k => by rw [if_neg (by omega)]) (fun k => by rw [if_neg (by omega)]) (fun _ _ _ _ => rfl)

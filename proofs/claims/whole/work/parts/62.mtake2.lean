/-! THE REFERENCE: take, one read (pc 146) -/
theorem m_takeR {G : o_G} {d : Nat} {i : o_I} {r : o_R} {P : o_P} {y c s : Nat} {lk : Nat → Int32} (hm : ly_m G r y) (hlk : ∀ j, mt_F y i j → lk_R G r j y 1 lk) (hc : c < 8) (hs : s ≤ 420) (hi6 : i y 6 = nI c) (hk16 : rr_k lk s ≤ 16) (hb : rr_b lk s ≤ 450)
    (h : ∀ j, j y 6 = nI (c + 1) → j (y + 5) c = nI (rr_k lk s) → (∀ q, q < rr_k lk s → j (y + 6) (16 * c + q) = px_code (lk (rr_b lk s + q))) → (∀ q, q < rr_k lk s → j (y + 7) (16 * c + q) = lk (rr_c lk s + q) - 33) → (∀ a k, ¬ (a = y ∧ k = 6) → ¬ (a = y + 5 ∧ k = c) → ¬ ((a = y + 6 ∨ a = y + 7) ∧ 16 * c ≤ k ∧ k < 16 * c + 16) → j a k = i a k) → Ok G (d + 2) mX10_take P 116 [some (.ref y), some (.int (nI (rr_z lk s))), none, none] [] j r) :
    ∀ m q j, q + m = rr_k lk s → (∀ z, z < q → j (y + 6) (16 * c + z) = px_code (lk (rr_b lk s + z))) → (∀ z, z < q → j (y + 7) (16 * c + z) = lk (rr_c lk s + z) - 33) → (∀ a k, ¬ ((a = y + 6 ∨ a = y + 7) ∧ 16 * c ≤ k ∧ k < 16 * c + 16) → j a k = i a k) → Ok G (d + 2) mX10_take P 146 [some (.ref y), some (.int (nI (rr_b lk s))), some (.int (nI (rr_k lk s))), some (.int (nI q))] [] j r := by
  obtain ⟨e5, Z5⟩ := hm.2 7 5 1 8 rfl (by decide)
  obtain ⟨e6, Z6⟩ := hm.2 8 6 1 128 rfl (by decide)
  obtain ⟨e7, Z7⟩ := hm.2 9 7 1 128 rfl (by decide)
  have ec : rr_c lk s = rr_b lk s + rr_k lk s + 1 + 1 + 1 := rfl
  have ez : rr_z lk s = rr_c lk s + rr_k lk s + 1 := rfl
  intro m
  induction m with
  | zero =>
    intro q j hq hL hQ F
    refine sX10_take_146 y _ _ _ ⟨fun _ => ?_, fun u => absurd (nI_le (by omega) (by omega)) u⟩
    rw [F y 6 (by omega), hi6, e5, Z5.len, nI_clamp (n := c) (by omega)]
    refine ⟨hm.1, Z5.Y, vp_in_nI (by omega) (by decide), fun i5 f5 i6 f6 x7 ex => ?_⟩
    have hx : x7 = nI (rr_z lk s) := by
      rw [ex, show (2 : Int32) * nI (rr_k lk s) = nI (2 * rr_k lk s) from pk_mul 2 _, show nI (2 * rr_k lk s) + 4 = nI (2 * rr_k lk s + 4) from nI_add _ 4, nI_add]
      congr 1
      omega
    rw [hx]
    have k6 : ∀ a k, ¬ (a = y ∧ k = 6) → ¬ (a = y + 5 ∧ k = c) → i6 a k = j a k := fun a k n1 n2 => by
      rw [f6]
      by_cases e : a = y
      · rw [o_up_k (fun z => n1 ⟨e, z⟩), f5, o_up_a (by omega)]
      · rw [o_up_a e, f5]
        by_cases e2 : a = y + 5
        · rw [o_up_k (fun z => n2 ⟨e2, z⟩)]
        · rw [o_up_a e2]
    refine h i6 ?_ ?_ (fun z hz => ?_) (fun z hz => ?_) (fun a k n1 n2 n3 => ?_)
    · rw [f6, o_up_s, f5, o_up_a (by omega), F y 6 (by omega), hi6, nI_1]
    · rw [f6, o_up_a (by omega), f5, o_up_s]
    · rw [k6 _ _ (by omega) (by omega)]
      exact hL z (by omega)
    · rw [k6 _ _ (by omega) (by omega)]
      exact hQ z (by omega)
    · rw [k6 a k n1 n2]
      exact F a k n3
  | succ m ih =>
    intro q j hq hL hQ F
    have L := hlk j (fun a k n1 n2 => F a k (by omega))
    refine sX10_take_146 y _ _ _ ⟨fun u => absurd u (nI_ge (by omega) (by omega)), fun _ => ⟨hm.1, ?_⟩⟩
    have e16 : (16 : Int32) * nI c + nI q = nI (16 * c + q) := by rw [show (16 : Int32) * nI c = nI (16 * c) from pk_mul 16 c, nI_add]
    rw [nI_add, nI_add, F y 6 (by omega), hi6, e16, show nI (rr_b lk s + rr_k lk s) + 3 = nI (rr_c lk s) from nI_add _ 3, nI_add]
    refine L _ _ _ (by omega) (m_codeOf ?_)
    rw [e6, Z6.len, nI_clamp (n := 16 * c + q) (by omega)]
    refine ⟨Z6.Y, vp_in_nI (by omega) (by decide), fun i13 f13 => ?_⟩
    have F13 : ∀ a k, ¬ ((a = y + 6 ∨ a = y + 7) ∧ 16 * c ≤ k ∧ k < 16 * c + 16) → i13 a k = i a k := fun a k na => by
      rw [f13]
      by_cases e : a = y + 6
      · rw [o_up_k (by omega)]
        exact F a k na
      · rw [o_up_a e]
        exact F a k na
    refine hlk i13 (fun a k n1 n2 => F13 a k (by omega)) _ _ _ (by omega) ?_
    rw [F13 y 6 (by omega), hi6, e16, e7, Z7.len, nI_clamp (n := 16 * c + q) (by omega)]
    refine ⟨Z7.Y, vp_in_nI (by omega) (by decide), fun i17 f17 x18 e18 => ?_⟩
    rw [e18, nI_1]
    refine ih (q + 1) i17 (by omega) (fun z hz => ?_) (fun z hz => ?_) (fun a k na => ?_)
    · rw [f17, o_up_a (by omega), f13]
      by_cases e : z = q
      · rw [e, o_up_s]
      · rw [o_up_k (by omega)]
        exact hL z (by omega)
    · rw [f17]
      by_cases e : z = q
      · rw [e, o_up_s]
      · rw [o_up_k (by omega), f13, o_up_a (by omega)]
        exact hQ z (by omega)
    · rw [f17]
      by_cases e : a = y + 7
      · rw [o_up_k (by omega)]
        exact F13 a k na
      · rw [o_up_a e]
        exact F13 a k na

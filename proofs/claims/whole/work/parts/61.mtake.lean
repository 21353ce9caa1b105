/-! THE REFERENCE: take, the name and the bases -/
theorem nb_all {lk : Nat → Int32} {n : Nat} (hz : ∀ k, n ≤ k → lk k = 0) : ∀ f a m, 49 ≤ m + f → m ≤ 48 → a < n → pr_e lk n f a m = none → ∀ z, a ≤ z → z < n → lk z = 10 ∨ px_bas (lk z) = true := by
  intro f
  induction f with
  | zero => intro a m h1 h2; omega
  | succ f ih =>
    intro a m h1 h2 han he z hz1 hz2
    have ee : pr_e lk n (f + 1) a m = if 1 ≤ pr_k lk a m ∧ lk (a + pr_k lk a m) = 10 then (if a + pr_k lk a m + 1 < n then pr_e lk n f (a + pr_k lk a m + 1) (m + pr_k lk a m) else none) else some (a + pr_k lk a m) := rfl
    have kle : pr_k lk a m ≤ 48 - m := px_run_le _ _ _
    have kin : ∀ q, q < pr_k lk a m → px_bas (lk (a + q)) = true := fun q hq => px_run_in _ _ _ q hq
    rw [ee] at he
    generalize pr_k lk a m = k at *
    by_cases hok : 1 ≤ k ∧ lk (a + k) = 10
    · rw [if_pos hok] at he
      by_cases h3 : z < a + k
      · have := kin (z - a) (by omega)
        rw [show a + (z - a) = z by omega] at this
        exact Or.inr this
      · by_cases h4 : z = a + k
        · rw [h4]
          exact Or.inl hok.2
        · rw [if_pos (by omega)] at he
          exact ih (a + k + 1) (m + k) (by omega) (by omega) (by omega) he z (by omega) hz2
    · rw [if_neg hok] at he
      cases he
theorem pr_b_len (lk : Nat → Int32) (n : Nat) : ∀ f a bl, bl.length ≤ 48 → (pr_b lk n f a bl).length ≤ 48 := by
  intro f
  induction f with
  | zero => intro a bl h; exact h
  | succ f ih =>
    intro a bl h
    have eb : pr_b lk n (f + 1) a bl = if a + pr_k lk a bl.length + 1 < n then pr_b lk n f (a + pr_k lk a bl.length + 1) (bl ++ pp_cd lk a (pr_k lk a bl.length)) else bl ++ pp_cd lk a (pr_k lk a bl.length) := rfl
    have kle : pr_k lk a bl.length ≤ 48 - bl.length := px_run_le _ _ _
    have bll : (bl ++ pp_cd lk a (pr_k lk a bl.length)).length ≤ 48 := by rw [List.length_append, pp_cd_len]; omega
    rw [eb]
    split
    · exact ih _ _ bll
    · exact bll
/-- what take may change -/
def mt_F (y : Nat) (i j : o_I) : Prop := ∀ a k, ¬ (a = y ∧ (k = 2 ∨ k = 4 ∨ k = 6)) → (a < y + 3 ∨ y + 7 < a) → j a k = i a k
theorem m_takeB {G : o_G} {d : Nat} {i : o_I} {r : o_R} {P : o_P} {y n p0 : Nat} {lk : Nat → Int32} {BL : List Nat} (hm : ly_m G r y) (hlk : ∀ j, mt_F y i j → lk_R G r j y 0 lk) (hn : n ≤ 100) (hsz : i (y + 2) 0 = nI n) (h48 : BL.length ≤ 48) (hall : ∀ z, p0 ≤ z → z < n → lk z = 10 ∨ px_bas (lk z) = true)
    (h : ∀ j, j y 2 = nI BL.length → (∀ q c, BL[q]? = some c → c < 4 ∧ j (y + 3) q = nI c) → (∀ a k, ¬ (a = y ∧ (k = 2 ∨ k = 6)) → a ≠ y + 3 → j a k = i a k) → j y 6 = 0 → Ok G (d + 2) mX10_take P 116 [some (.ref y), some (.int 0), none, none] [] j r) :
    ∀ m p bl j, p + m = n → p0 ≤ p → bl ++ nb_l lk p m = BL → j y 2 = nI bl.length → (∀ q c, bl[q]? = some c → c < 4 ∧ j (y + 3) q = nI c) → (∀ a k, ¬ (a = y ∧ k = 2) → a ≠ y + 3 → j a k = i a k) → Ok G (d + 2) mX10_take P 54 [some (.ref y), some (.int (nI p)), none, none] [] j r := by
  obtain ⟨e1, Z1⟩ := hm.2 1 2 1 2 rfl (by decide)
  obtain ⟨e3, Z3⟩ := hm.2 3 3 1 48 rfl (by decide)
  intro m
  induction m with
  | zero =>
    intro p bl j hp hp0 hbl h2 hb F
    have hbl : bl = BL := by rw [← hbl]; exact (List.append_nil bl).symm
    refine sX10_take_54 y _ ?_
    rw [e1, Z1.len, show (0 : Int32).toNatClampNeg = 0 from rfl, F (y + 2) 0 (by omega) (by omega), hsz]
    refine ⟨hm.1, Z1.Y, vp_in_nI (n := 0) (by decide) (by decide), fun _ i5 f5 => h i5 ?_ (fun q c hc => ?_) (fun a k n1 n2 => ?_) (by rw [f5, o_up_s]), fun u => absurd (nI_le (a := n) (b := p) (by omega) (by omega)) u⟩
    · rw [f5, o_up_k (by decide), h2, hbl]
    · rw [f5, o_up_a (by omega)]
      exact hb q c (by rw [hbl]; exact hc)
    · rw [f5]
      by_cases e : a = y
      · rw [o_up_k (fun z => n1 ⟨e, Or.inr z⟩)]
        exact F a k (fun z => n1 ⟨z.1, Or.inl z.2⟩) n2
      · rw [o_up_a e]
        exact F a k (fun z => e z.1) n2
  | succ m ih =>
    intro p bl j hp hp0 hbl h2 hb F
    have MF : mt_F y i j := fun a k n1 n2 => F a k (by omega) (by omega)
    have L := hlk j MF
    have hun : nb_l lk p (m + 1) = if lk p = 10 then nb_l lk (p + 1) m else (px_code (lk p)).toNatClampNeg :: nb_l lk (p + 1) m := rfl
    rw [hun] at hbl
    refine sX10_take_54 y _ ?_
    rw [e1, Z1.len, show (0 : Int32).toNatClampNeg = 0 from rfl, F (y + 2) 0 (by omega) (by omega), hsz]
    refine ⟨hm.1, Z1.Y, vp_in_nI (n := 0) (by decide) (by decide), fun u => absurd u (nI_ge (by omega) (by omega)), fun _ => L _ _ _ (by omega) ⟨fun h10 x8 e8 => ?_, fun h10 => L _ _ _ (by omega) (m_codeOf ?_)⟩⟩
    · rw [if_pos h10] at hbl
      rw [e8, nI_1]
      exact ih (p + 1) bl j (by omega) (by omega) hbl h2 hb F
    · rw [if_neg h10] at hbl
      have hbas : px_bas (lk p) = true := by
        rcases hall p hp0 (by omega) with q | q
        · exact absurd q h10
        · exact q
      obtain ⟨c, hc4, ec⟩ := px_bas_n hbas
      rw [ec, nI_clamp (n := c) (by omega)] at hbl
      have hbl48 : bl.length + 1 ≤ 48 := by
        have := congrArg List.length hbl
        rw [List.length_append, List.length_cons] at this
        omega
      rw [ec, h2, e3, Z3.len, nI_clamp (n := bl.length) (by omega)]
      refine ⟨Z3.Y, vp_in_nI (by omega) (by decide), fun i13 f13 i14 f14 x15 e15 => ?_⟩
      rw [e15, nI_1]
      refine ih (p + 1) (bl ++ [c]) i14 (by omega) (by omega) (by rw [List.append_assoc]; exact hbl) ?_ (fun q x hq => ?_) (fun a k n1 n2 => ?_)
      · rw [f14, o_up_s, f13, o_up_a (by omega), h2, nI_1, List.length_append]
        rfl
      · rw [f14, o_up_a (by omega), f13]
        by_cases eq : q = bl.length
        · subst eq
          rw [List.getElem?_append_right (Nat.le_refl _), Nat.sub_self] at hq
          have : c = x := by simpa using hq
          subst this
          exact ⟨hc4, by rw [o_up_s]⟩
        · have hql : q < bl.length := by
            have := (List.getElem?_eq_some_iff.mp hq).1
            rw [List.length_append] at this
            simp only [List.length_singleton] at this
            omega
          rw [List.getElem?_append_left hql] at hq
          rw [o_up_k eq]
          exact hb q x hq
      · rw [f14]
        by_cases e : a = y
        · rw [o_up_k (fun z => n1 ⟨e, z⟩), f13, o_up_a n2]
          exact F a k n1 n2
        · rw [o_up_a e, f13, o_up_a n2]
          exact F a k n1 n2

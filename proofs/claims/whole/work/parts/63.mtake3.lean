/-! THE REFERENCE: take, the reads (pc 116) -/
theorem rr_facts {lk : Nat → Int32} {a : Nat} (h : rr_e lk a = none) : lk a = 64 ∧ (1 ≤ pr_nm lk (a + 1) ∧ lk (a + 1 + pr_nm lk (a + 1)) = 10) ∧ (4 ≤ rr_k lk a ∧ lk (rr_b lk a + rr_k lk a) = 10) ∧ rr_q lk a = rr_k lk a ∧ lk (rr_c lk a + rr_q lk a) = 10 := by
  unfold rr_e at h
  split at h
  · rename_i h1
    split at h
    · rename_i h2
      split at h
      · rename_i h3
        split at h
        · split at h
          · split at h
            · rename_i h6
              exact ⟨h1, h2, h3, h6.1, h6.2⟩
            · cases h
          · cases h
        · cases h
      · cases h
    · cases h
  · cases h
def mqr_S (j : o_I) (y q : Nat) (lk : Nat → Int32) (s : Nat) : Prop := j (y + 5) q = nI (rr_k lk s) ∧ (∀ z, z < rr_k lk s → j (y + 6) (16 * q + z) = px_code (lk (rr_b lk s + z))) ∧ ∀ z, z < rr_k lk s → j (y + 7) (16 * q + z) = lk (rr_c lk s + z) - 33
theorem m_takeRs {G : o_G} {d : Nat} {i : o_I} {r : o_R} {post : o_I → Prop} {y n : Nat} {lk : Nat → Int32} {RL : List Nat} (hm : ly_m G r y) (hlk : ∀ j, mt_F y i j → lk_R G r j y 1 lk) (hz : ∀ k, n ≤ k → lk k = 0) (hn : n ≤ 420) (hsz : i (y + 2) 1 = nI n)
    (h : ∀ j, j y 6 = nI RL.length → (∀ q s, RL[q]? = some s → mqr_S j y q lk s) → (∀ a k, ¬ (a = y ∧ k = 6) → (a < y + 5 ∨ y + 7 < a) → j a k = i a k) → post j) :
    ∀ f a dl j, dl.length + f = 8 → a ≤ n → rs_e lk n f a = none → dl ++ rs_l lk n f a = RL → j y 6 = nI dl.length → (∀ q s, dl[q]? = some s → mqr_S j y q lk s) → (∀ a k, ¬ (a = y ∧ k = 6) → (a < y + 5 ∨ y + 7 < a) → j a k = i a k) → Ok G (d + 3) mX10_take (fun v j q => q = r ∧ v = none ∧ post j) 116 [some (.ref y), some (.int (nI a)), none, none] [] j r := by
  obtain ⟨e1, Z1⟩ := hm.2 1 2 1 2 rfl (by decide)
  have fin : ∀ a dl j, n ≤ a → a ≤ n → dl = RL → j y 6 = nI dl.length → (∀ q s, dl[q]? = some s → mqr_S j y q lk s) → (∀ a k, ¬ (a = y ∧ k = 6) → (a < y + 5 ∨ y + 7 < a) → j a k = i a k) → Ok G (d + 3) mX10_take (fun v j q => q = r ∧ v = none ∧ post j) 116 [some (.ref y), some (.int (nI a)), none, none] [] j r := by
    intro a dl j hna ha hl h6 hq F
    refine sX10_take_116 y _ ?_
    rw [e1, Z1.len, show (1 : Int32).toNatClampNeg = 1 from rfl, F (y + 2) 1 (by omega) (by omega), hsz]
    exact ⟨hm.1, Z1.Y, vp_in_nI (n := 1) (by decide) (by decide), fun _ => o_rv (h j (by rw [← hl]; exact h6) (by rw [← hl]; exact hq) F), fun u => absurd (nI_le (by omega) (by omega)) u⟩
  intro f
  induction f with
  | zero =>
    intro a dl j hf ha he hl h6 hq F
    unfold rs_e at he
    have hna : n ≤ a := by
      by_cases u : n ≤ a
      · exact u
      · rw [if_neg u] at he
        cases he
    exact fin a dl j hna ha (by rw [← hl]; exact (List.append_nil dl).symm) h6 hq F
  | succ f ih =>
    intro a dl j hf ha he hl h6 hq F
    have ee : rs_e lk n (f + 1) a = if n ≤ a then none else match rr_e lk a with
      | some e => some e
      | none => rs_e lk n f (rr_z lk a) := rfl
    have el : rs_l lk n (f + 1) a = if n ≤ a then [] else a :: rs_l lk n f (rr_z lk a) := rfl
    rw [ee] at he
    rw [el] at hl
    by_cases hna : n ≤ a
    · rw [if_pos hna] at hl
      exact fin a dl j hna ha (by rw [← hl]; exact (List.append_nil dl).symm) h6 hq F
    · rw [if_neg hna] at he hl
      have hre : rr_e lk a = none := by
        match q : rr_e lk a, he with
        | none, _ => rfl
        | some e, he => cases he
      rw [hre] at he
      obtain ⟨h1, h2, h3, h4, h5⟩ := rr_facts hre
      have hzl := rr_z_le hz hre
      have nm8 : pr_nm lk (a + 1) ≤ 8 := px_run_le _ _ _
      have k16 : rr_k lk a ≤ 16 := px_run_le _ _ _
      have eb : rr_b lk a = a + 1 + pr_nm lk (a + 1) + 1 := rfl
      have ec : rr_c lk a = rr_b lk a + rr_k lk a + 1 + 1 + 1 := rfl
      have ez : rr_z lk a = rr_c lk a + rr_k lk a + 1 := rfl
      have MF : mt_F y i j := fun b k n1 n2 => F b k (by omega) (by omega)
      have L := hlk j MF
      refine sX10_take_116 y _ ?_
      rw [e1, Z1.len, show (1 : Int32).toNatClampNeg = 1 from rfl, F (y + 2) 1 (by omega) (by omega), hsz]
      refine ⟨hm.1, Z1.Y, vp_in_nI (n := 1) (by decide) (by decide), fun u => absurd u (nI_ge (by omega) (by omega)), fun _ => ?_⟩
      refine m_newline (e := a + 1 + pr_nm lk (a + 1)) hm L (by omega) (by omega) (fun z hz1 hz2 => ?_) h2.2 (fun x6 e6 => ?_)
      · by_cases e : z = a
        · rw [e, h1]
          decide
        · have := px_run_in (fun q => px_vis (lk q)) 8 (a + 1) (z - (a + 1)) (by show z - (a + 1) < pr_nm lk (a + 1); omega)
          have : px_vis (lk (a + 1 + (z - (a + 1)))) = true := this
          rw [show a + 1 + (z - (a + 1)) = z by omega] at this
          exact vis_10 this
      · rw [nI_1, ← eb] at e6
        subst e6
        refine m_newline (e := rr_b lk a + rr_k lk a) hm L (by omega) (by omega) (fun z hz1 hz2 => ?_) h3.2 (fun x8 e8 => ?_)
        · have := px_run_in (fun q => px_let (lk q)) 16 (rr_b lk a) (z - rr_b lk a) (by show z - rr_b lk a < rr_k lk a; omega)
          have : px_let (lk (rr_b lk a + (z - rr_b lk a))) = true := this
          rw [show rr_b lk a + (z - rr_b lk a) = z by omega] at this
          exact let_10 this
        · rw [pk_sub (by omega), show rr_b lk a + rr_k lk a - rr_b lk a = rr_k lk a by omega] at e8
          rw [e8]
          refine m_takeR (d := d + 1) (i := j) (c := dl.length) (s := a) hm (fun j2 F2 => hlk j2 (fun b k n1 n2 => by rw [F2 b k n1 n2]; exact MF b k n1 n2)) (by omega) (by omega) h6 k16 (by omega) (fun j2 g6 g5 gL gQ G2 => ?_) (rr_k lk a) 0 j (Nat.zero_add _) (fun z hz => absurd hz (Nat.not_lt_zero z)) (fun z hz => absurd hz (Nat.not_lt_zero z)) (fun _ _ _ => rfl)
          refine ih (rr_z lk a) (dl ++ [a]) j2 (by rw [List.length_append]; simp only [List.length_singleton]; omega) hzl he (by rw [List.append_assoc]; exact hl) (by rw [g6, List.length_append]; rfl) (fun q s hs => ?_) (fun b k n1 n2 => by rw [G2 b k n1 (by omega) (by omega)]; exact F b k n1 n2)
          by_cases eq : q = dl.length
          · subst eq
            rw [List.getElem?_append_right (Nat.le_refl _), Nat.sub_self] at hs
            have : a = s := by simpa using hs
            subst this
            exact ⟨g5, gL, gQ⟩
          · have hql : q < dl.length := by
              have := (List.getElem?_eq_some_iff.mp hs).1
              rw [List.length_append] at this
              simp only [List.length_singleton] at this
              omega
            rw [List.getElem?_append_left hql] at hs
            obtain ⟨q1, q2, q3⟩ := hq q s hs
            have ks : rr_k lk s ≤ 16 := px_run_le _ _ _
            exact ⟨by rw [G2 _ _ (by omega) (by omega) (by omega)]; exact q1, fun z hz => by rw [G2 _ _ (by omega) (by omega) (by omega)]; exact q2 z hz, fun z hz => by rw [G2 _ _ (by omega) (by omega) (by omega)]; exact q3 z hz⟩

/-! PARSER: a read, by what stands in the text -/
def rr_b (lk : Nat → Int32) (a : Nat) : Nat := a + 1 + pr_nm lk (a + 1) + 1
def rr_k (lk : Nat → Int32) (a : Nat) : Nat := px_run (fun q => px_let (lk q)) (rr_b lk a) 16
def rr_c (lk : Nat → Int32) (a : Nat) : Nat := rr_b lk a + rr_k lk a + 1 + 1 + 1
def rr_q (lk : Nat → Int32) (a : Nat) : Nat := px_run (fun q => px_vis (lk q)) (rr_c lk a) (rr_k lk a)
/-- the place of the first error of a read from a on -/
def rr_e (lk : Nat → Int32) (a : Nat) : Option Nat :=
  if lk a = 64 then
    if 1 ≤ pr_nm lk (a + 1) ∧ lk (a + 1 + pr_nm lk (a + 1)) = 10 then
      if 4 ≤ rr_k lk a ∧ lk (rr_b lk a + rr_k lk a) = 10 then
        if lk (rr_b lk a + rr_k lk a + 1) = 43 then
          if lk (rr_b lk a + rr_k lk a + 1 + 1) = 10 then
            if rr_q lk a = rr_k lk a ∧ lk (rr_c lk a + rr_q lk a) = 10 then none else some (rr_c lk a + rr_q lk a)
          else some (rr_b lk a + rr_k lk a + 1 + 1)
        else some (rr_b lk a + rr_k lk a + 1)
      else some (rr_b lk a + rr_k lk a)
    else some (a + 1 + pr_nm lk (a + 1))
  else some a
theorem pp_y {lk : Nat → Int32} {c : Int32} {a : Nat} (h : lk a = c) : pp_ea lk c a false = a + 1 ∧ pp_ew lk c a false = false := by
  unfold pp_ea pp_ew
  rw [if_pos ⟨rfl, h⟩, if_pos ⟨rfl, h⟩]
  exact ⟨rfl, rfl⟩
theorem pp_n {lk : Nat → Int32} {c : Int32} {a : Nat} (h : ¬ lk a = c) : pp_ea lk c a false = a ∧ pp_ew lk c a false = true := by
  unfold pp_ea pp_ew
  rw [if_neg (fun q => h q.2), if_neg (fun q => h q.2)]
  exact ⟨rfl, rfl⟩
theorem tk_kt (lk : Nat → Int32) (kd a m : Nat) : tk_k lk kd true a m = 0 := by unfold tk_k; rw [if_pos rfl]
theorem tk_wt (lk : Nat → Int32) (kd a m0 m : Nat) : tk_w lk kd true a m0 m = true := rfl
theorem tk_kn (lk : Nat → Int32) (a : Nat) : tk_k lk 0 false a 8 = pr_nm lk a := rfl
theorem tk_wf {lk : Nat → Int32} {kd a m0 m : Nat} (h : ¬ tk_k lk kd false a m < m0) : tk_w lk kd false a m0 m = false := by unfold tk_w; simp only [h, decide_false, Bool.or_false]
theorem tk_ww {lk : Nat → Int32} {kd a m0 m : Nat} (h : tk_k lk kd false a m < m0) : tk_w lk kd false a m0 m = true := by unfold tk_w; simp only [h, decide_true, Bool.or_true]
theorem c_read1 {G : o_G} {d : Nat} {i : o_I} {r : o_R} {post : o_I → Prop} {p t cap n a rd : Nat} {lk : Nat → Int32} (hc : o_cst G) (hp : ly_pars G r p t cap) (hr : ly_rd G r rd) (d1 : t + 1 < p) (d2 : p < rd) (ht : tp_S i t n lk) (hn : n ≤ cap) (hcap : cap < 2 ^ 19) (hs : ps_S i p a false) (ha : a ≤ n)
    (hE : ∀ e j, rr_e lk a = some e → ps_S j p e true → rd_F p rd i j → post j)
    (hK : ∀ j, rr_e lk a = none → ps_S j p (rr_c lk a + rr_k lk a + 1) false → j rd 2 = nI (rr_k lk a) → (∀ q, q < rr_k lk a → j (rd + 1) q = px_code (lk (rr_b lk a + q))) → (∀ q, q < rr_k lk a → j (rd + 2) q = lk (rr_c lk a + q) - 33) → rd_F p rd i j → post j) : SpV G (d + 7) mX3_takeRead [.ref p, .ref rd] post i r := by
  refine c_takeRead hc hp hr d1 d2 ht hn hcap hs ha rfl rfl rfl rfl rfl rfl rfl rfl rfl rfl rfl rfl rfl rfl rfl rfl rfl rfl (fun j S hcnt hL hQ F => ?_)
  have bad : ∀ x, ps_S j p (pp_ea lk 10 x true) (pp_ew lk 10 x true) → ps_S j p x true := fun x q => by rw [(pp_t lk 10 x).1, (pp_t lk 10 x).2] at q; exact q
  by_cases h1 : lk a = 64
  · obtain ⟨ya, yw⟩ := pp_y h1
    rw [ya, yw] at S hcnt hL hQ
    rw [tk_kn] at S hcnt hL hQ
    by_cases h2 : 1 ≤ pr_nm lk (a + 1) ∧ lk (a + 1 + pr_nm lk (a + 1)) = 10
    · have hw2 : tk_w lk 0 false (a + 1) 1 8 = false := tk_wf (by rw [tk_kn]; omega)
      obtain ⟨za, zw⟩ := pp_y h2.2
      rw [hw2, za, zw] at S hcnt hL hQ
      have ek2 : tk_k lk 2 false (a + 1 + pr_nm lk (a + 1) + 1) 16 = rr_k lk a := rfl
      have eb : a + 1 + pr_nm lk (a + 1) + 1 = rr_b lk a := rfl
      rw [ek2] at S hcnt hL hQ
      rw [eb] at S hcnt hL hQ ek2
      by_cases h3 : 4 ≤ rr_k lk a ∧ lk (rr_b lk a + rr_k lk a) = 10
      · have hw4 : tk_w lk 2 false (rr_b lk a) 4 16 = false := tk_wf (by rw [ek2]; omega)
        obtain ⟨va, vw⟩ := pp_y h3.2
        rw [hw4, if_neg (show ¬ false = true by decide), va, vw] at S hQ
        rw [hw4, if_neg (show ¬ false = true by decide)] at hcnt hL
        by_cases h4 : lk (rr_b lk a + rr_k lk a + 1) = 43
        · obtain ⟨ua, uw⟩ := pp_y h4
          rw [ua, uw] at S hQ
          by_cases h5 : lk (rr_b lk a + rr_k lk a + 1 + 1) = 10
          · obtain ⟨ta, tw⟩ := pp_y h5
            rw [ta, tw] at S hQ
            have ek3 : tk_k lk 0 false (rr_b lk a + rr_k lk a + 1 + 1 + 1) (rr_k lk a) = rr_q lk a := rfl
            have ec : rr_b lk a + rr_k lk a + 1 + 1 + 1 = rr_c lk a := rfl
            rw [ek3] at S hQ
            rw [ec] at S hQ ek3
            have qle : rr_q lk a ≤ rr_k lk a := px_run_le _ _ _
            by_cases h6 : rr_q lk a = rr_k lk a ∧ lk (rr_c lk a + rr_q lk a) = 10
            · have hw8 : tk_w lk 0 false (rr_c lk a) (rr_k lk a) (rr_k lk a) = false := tk_wf (by rw [ek3]; omega)
              obtain ⟨sa, sw⟩ := pp_y h6.2
              rw [hw8, sa, sw, h6.1] at S
              rw [hw8, if_neg (show ¬ false = true by decide), h6.1] at hQ
              refine hK j ?_ S hcnt hL hQ F
              unfold rr_e
              rw [if_pos h1, if_pos h2, if_pos h3, if_pos h4, if_pos h5, if_pos h6]
            · have S' : ps_S j p (rr_c lk a + rr_q lk a) true := by
                by_cases h7 : rr_q lk a < rr_k lk a
                · rw [tk_ww (by rw [ek3]; exact h7)] at S
                  exact bad _ S
                · rw [tk_wf (by rw [ek3]; exact h7)] at S
                  have h8 : ¬ lk (rr_c lk a + rr_q lk a) = 10 := fun q => h6 ⟨by omega, q⟩
                  rw [(pp_n h8).1, (pp_n h8).2] at S
                  exact S
              refine hE _ j ?_ S' F
              unfold rr_e
              rw [if_pos h1, if_pos h2, if_pos h3, if_pos h4, if_pos h5, if_neg h6]
          · rw [(pp_n h5).1, (pp_n h5).2, tk_kt, tk_wt, Nat.add_zero] at S
            refine hE _ j ?_ (bad _ S) F
            unfold rr_e
            rw [if_pos h1, if_pos h2, if_pos h3, if_pos h4, if_neg h5]
        · rw [(pp_n h4).1, (pp_n h4).2, (pp_t lk 10 _).1, (pp_t lk 10 _).2, tk_kt, tk_wt, Nat.add_zero] at S
          refine hE _ j ?_ (bad _ S) F
          unfold rr_e
          rw [if_pos h1, if_pos h2, if_pos h3, if_neg h4]
      · have key : pp_ea lk 10 (rr_b lk a + rr_k lk a) (tk_w lk 2 false (rr_b lk a) 4 16) = rr_b lk a + rr_k lk a ∧ pp_ew lk 10 (rr_b lk a + rr_k lk a) (tk_w lk 2 false (rr_b lk a) 4 16) = true := by
          by_cases h7 : rr_k lk a < 4
          · rw [tk_ww (by rw [ek2]; exact h7)]
            exact pp_t _ _ _
          · rw [tk_wf (by rw [ek2]; exact h7)]
            exact pp_n (fun q => h3 ⟨by omega, q⟩)
        rw [key.1, key.2, (pp_t lk 43 _).1, (pp_t lk 43 _).2, (pp_t lk 10 _).1, (pp_t lk 10 _).2, tk_kt, tk_wt, Nat.add_zero] at S
        refine hE _ j ?_ (bad _ S) F
        unfold rr_e
        rw [if_pos h1, if_pos h2, if_neg h3]
    · have key : pp_ea lk 10 (a + 1 + pr_nm lk (a + 1)) (tk_w lk 0 false (a + 1) 1 8) = a + 1 + pr_nm lk (a + 1) ∧ pp_ew lk 10 (a + 1 + pr_nm lk (a + 1)) (tk_w lk 0 false (a + 1) 1 8) = true := by
        by_cases h7 : pr_nm lk (a + 1) < 1
        · rw [tk_ww (by rw [tk_kn]; exact h7)]
          exact pp_t _ _ _
        · rw [tk_wf (by rw [tk_kn]; exact h7)]
          exact pp_n (fun q => h2 ⟨by omega, q⟩)
      rw [key.1, key.2, tk_kt, tk_wt, Nat.add_zero, (pp_t lk 10 _).1, (pp_t lk 10 _).2, (pp_t lk 43 _).1, (pp_t lk 43 _).2, (pp_t lk 10 _).1, (pp_t lk 10 _).2, tk_kt, tk_wt, Nat.add_zero] at S
      refine hE _ j ?_ (bad _ S) F
      unfold rr_e
      rw [if_pos h1, if_neg h2]
  · rw [(pp_n h1).1, (pp_n h1).2, tk_kt, tk_wt, Nat.add_zero, (pp_t lk 10 _).1, (pp_t lk 10 _).2, tk_kt, tk_wt, Nat.add_zero, (pp_t lk 10 _).1, (pp_t lk 10 _).2, (pp_t lk 43 _).1, (pp_t lk 43 _).2, (pp_t lk 10 _).1, (pp_t lk 10 _).2, tk_kt, tk_wt, Nat.add_zero] at S
    refine hE _ j ?_ (bad _ S) F
    unfold rr_e
    rw [if_neg h1]

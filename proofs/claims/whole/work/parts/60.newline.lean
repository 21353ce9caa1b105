/-! THE REFERENCE: look as lk_R, newline -/
theorem lk_R_of {G : o_G} {i : o_I} {r : o_R} {y n0 n1 : Nat} {f0 f1 : Nat → Int32} (hm : ly_m G r y) (hS : mt_S i y n0 n1 f0 f1) (hc0 : ∀ q, q < n0 → tx_al (f0 q)) (hc1 : ∀ q, q < n1 → tx_al (f1 q)) : lk_R G r i y 0 (px_lk f0 n0) ∧ lk_R G r i y 1 (px_lk f1 n1) :=
  ⟨fun d post k hk h => m_look (t := 0) hm.tx hS (by decide) hk hc0 hc1 (by rw [if_pos rfl]; exact h), fun d post k hk h => m_look (t := 1) hm.tx hS (by decide) hk hc0 hc1 (by rw [if_neg (by decide)]; exact h)⟩
theorem px_lk_0 {f : Nat → Int32} {n k : Nat} (h : n ≤ k) : px_lk f n k = 0 := by
  unfold px_lk
  rw [if_neg (by omega)]
theorem m_newline {G : o_G} {d : Nat} {i : o_I} {r : o_R} {post : Int32 → o_I → Prop} {y t a e : Nat} {lk : Nat → Int32} (hm : ly_m G r y) (hlk : lk_R G r i y t lk) (hae : a ≤ e) (he : e ≤ 500) (hne : ∀ z, a ≤ z → z < e → ¬ lk z = 10) (h10 : lk e = 10) (h : post (nI e) i) : SpI G (d + 2) mX10_newline [.ref y, .int (nI t), .int (nI a)] post i r := by
  have loop : ∀ m z, z + m = e → a ≤ z → Ok G (d + 2) mX10_newline (fun v j q => q = r ∧ ∃ x, v = some (.int x) ∧ post x j) 2 [some (.ref y), some (.int (nI t)), none, some (.int (nI z))] [] i r := by
    intro m
    induction m with
    | zero =>
      intro z hz ha
      have hz : z = e := by omega
      subst hz
      exact sX10_newline_2 y _ _ ⟨hm.1, hlk _ _ _ (by omega) ⟨fun _ => o_ri h, fun u => absurd h10 u⟩⟩
    | succ m ih =>
      intro z hz ha
      refine sX10_newline_2 y _ _ ⟨hm.1, hlk _ _ _ (by omega) ⟨fun u => absurd u (hne z ha (by omega)), fun _ x4 e4 => ?_⟩⟩
      rw [e4, nI_1]
      exact ih (z + 1) (by omega) (by omega)
  exact sp_of 1 (by decide +kernel) (Nat.le_of_ble_eq_true rfl) rfl (sX10_newline_0 y _ _ (loop (e - a) a (by omega) (Nat.le_refl _)))
/-- a visible char or a letter is no line break -/
theorem vis_10 {x : Int32} (h : px_vis x = true) : ¬ x = 10 := fun e => by
  rw [e] at h
  exact absurd h (by decide)
theorem let_10 {x : Int32} (h : px_let x = true) : ¬ x = 10 := fun e => by
  rw [e] at h
  exact absurd h (by decide)
theorem bas_10 {x : Int32} (h : px_bas x = true) : ¬ x = 10 := fun e => by
  rw [e] at h
  exact absurd h (by decide)
/-- the codes of what is no line break, from a on, m chars -/
def nb_l (lk : Nat → Int32) : Nat → Nat → List Nat
  | _, 0 => []
  | a, m + 1 => if lk a = 10 then nb_l lk (a + 1) m else (px_code (lk a)).toNatClampNeg :: nb_l lk (a + 1) m
theorem nb_run (lk : Nat → Int32) : ∀ k a m, (∀ q, q < k → px_bas (lk (a + q)) = true) → nb_l lk a (k + m) = pp_cd lk a k ++ nb_l lk (a + k) m := by
  intro k
  induction k with
  | zero => intro a m _; rw [Nat.zero_add]; rfl
  | succ k ih =>
    intro a m h
    have h0 := h 0 (by omega)
    rw [Nat.add_zero] at h0
    rw [show k + 1 + m = (k + m) + 1 by omega]
    show (if lk a = 10 then nb_l lk (a + 1) (k + m) else (px_code (lk a)).toNatClampNeg :: nb_l lk (a + 1) (k + m)) = (px_code (lk a)).toNatClampNeg :: (pp_cd lk (a + 1) k ++ nb_l lk (a + (k + 1)) m)
    rw [if_neg (bas_10 h0), ih (a + 1) m (fun q hq => by have := h (q + 1) (by omega); rw [show a + (q + 1) = a + 1 + q by omega] at this; exact this), show a + 1 + k = a + (k + 1) by omega]
/-- the lines' bases are what stands there but line breaks -/
theorem nb_ref {lk : Nat → Int32} {n : Nat} (hz : ∀ k, n ≤ k → lk k = 0) : ∀ f a bl, 49 ≤ bl.length + f → bl.length ≤ 48 → a < n → pr_e lk n f a bl.length = none → pr_b lk n f a bl = bl ++ nb_l lk a (n - a) := by
  intro f
  induction f with
  | zero => intro a bl h1 h2; omega
  | succ f ih =>
    intro a bl h1 h2 han he
    have ee : pr_e lk n (f + 1) a bl.length = if 1 ≤ pr_k lk a bl.length ∧ lk (a + pr_k lk a bl.length) = 10 then (if a + pr_k lk a bl.length + 1 < n then pr_e lk n f (a + pr_k lk a bl.length + 1) (bl.length + pr_k lk a bl.length) else none) else some (a + pr_k lk a bl.length) := rfl
    have eb : pr_b lk n (f + 1) a bl = if a + pr_k lk a bl.length + 1 < n then pr_b lk n f (a + pr_k lk a bl.length + 1) (bl ++ pp_cd lk a (pr_k lk a bl.length)) else bl ++ pp_cd lk a (pr_k lk a bl.length) := rfl
    have kle : pr_k lk a bl.length ≤ 48 - bl.length := px_run_le _ _ _
    have kin : ∀ q, q < pr_k lk a bl.length → px_bas (lk (a + q)) = true := fun q hq => px_run_in _ _ _ q hq
    rw [ee] at he
    rw [eb]
    generalize pr_k lk a bl.length = k at *
    by_cases hok : 1 ≤ k ∧ lk (a + k) = 10
    · rw [if_pos hok] at he
      have hkn : a + k < n := Nat.lt_of_not_le (fun q => by have := hok.2; rw [hz _ q] at this; exact absurd this (by decide))
      have bll : (bl ++ pp_cd lk a k).length = bl.length + k := by rw [List.length_append, pp_cd_len]
      rw [show n - a = k + (n - (a + k)) by omega, nb_run lk k a _ kin, show n - (a + k) = (n - (a + k + 1)) + 1 by omega]
      have hstep : nb_l lk (a + k) ((n - (a + k + 1)) + 1) = nb_l lk (a + k + 1) (n - (a + k + 1)) := by
        show (if lk (a + k) = 10 then _ else _) = _
        rw [if_pos hok.2]
      rw [hstep]
      by_cases hlt : a + k + 1 < n
      · rw [if_pos hlt] at he ⊢
        rw [← bll] at he
        rw [ih (a + k + 1) _ (by rw [bll]; omega) (by rw [bll]; omega) hlt he, List.append_assoc]
      · rw [if_neg hlt, show n - (a + k + 1) = 0 by omega]
        show bl ++ pp_cd lk a k = bl ++ (pp_cd lk a k ++ [])
        rw [List.append_nil]
    · rw [if_neg hok] at he
      cases he

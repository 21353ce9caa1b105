/-! THE SAME OUT OF THE SAME LETTERS; from what reads show to what the judges see -/
theorem tb_st_cong {c c' : Nat → Nat → Nat} {a b : Nat} (h : ∀ x y, x < a → y < b → c x y = c' x y) : tb_st c a b = tb_st c' a b := by
  unfold tb_st
  by_cases ha : a = 0
  · rw [if_pos ha, if_pos ha]
  · rw [if_neg ha, if_neg ha]
    by_cases hb : b = 0
    · rw [if_pos hb, if_pos hb]
    · rw [if_neg hb, if_neg hb, dp_cong a b h, dp_cong (a - 1) (b - 1) (fun x y hx hy => h x y (by omega) (by omega)), dp_cong a (b - 1) (fun x y hx hy => h x y hx (by omega)), h (a - 1) (b - 1) (by omega) (by omega)]
theorem tb_cong {c c' : Nat → Nat → Nat} : ∀ n a b, a + b = n → (∀ x y, x < a → y < b → c x y = c' x y) → tb c a b = tb c' a b := by
  intro n
  induction n using Nat.strongRecOn with
  | ind n ih =>
    intro a b hn h
    by_cases h0 : a = 0 ∧ b = 0
    · obtain ⟨rfl, rfl⟩ := h0
      rfl
    · have hab : 0 < a ∨ 0 < b := by omega
      have hl := tb_less c hab
      have e := tb_st_cong h
      rw [tb_cons c hab, tb_cons c' hab, ← e]
      have h1 : tb_a (tb_st c a b) a ≤ a := by unfold tb_a; split <;> omega
      have h2 : tb_b (tb_st c a b) b ≤ b := by unfold tb_b; split <;> omega
      rw [ih _ (by omega) (tb_a (tb_st c a b) a) (tb_b (tb_st c a b) b) rfl (fun x y hx hy => h x y (by omega) (by omega))]
theorem sq_F_cong {n b : Nat} {f f' : Nat → Int32} (h : ∀ z, z < n → f z = f' z) : ∀ z, z < n → sq_F n f b z = sq_F n f' b z := by
  intro z hz
  unfold sq_F
  by_cases e : b = 0
  · rw [if_pos e, if_pos e]
    exact h z hz
  · rw [if_neg e, if_neg e]
    unfold sq_tl
    rw [if_pos hz, if_pos hz, h (n - 1 - z) (by omega)]
theorem sq_FQ_cong {n b : Nat} {f f' : Nat → Int32} (h : ∀ z, z < n → f z = f' z) : ∀ z, z < n → sq_FQ n f b z = sq_FQ n f' b z := by
  intro z hz
  unfold sq_FQ
  by_cases e : b = 0
  · rw [if_pos e, if_pos e]
    exact h z hz
  · rw [if_neg e, if_neg e]
    unfold sq_tq
    rw [if_pos hz, if_pos hz, h (n - 1 - z) (by omega)]
theorem pl_res_cong {k n len : Nat} {f f' g g' : Nat → Int32} (hf : ∀ z, z < n → f z = f' z) (hg : ∀ z, z < len → g z = g' z) : pl_res k n len f g = pl_res k n len f' g' := by
  unfold pl_res
  have h1 : ∀ z, z < n → sq_tl n f z = sq_tl n f' z := sq_F_cong (b := 1) hf
  rw [pl_all_cong (b := 0) hf hg len 0 none (by omega), pl_all_cong (b := 1) h1 hg len 0 _ (by omega)]
theorem tb_dp_cong {n s e b len : Nat} {f f' g g' : Nat → Int32} (hf : ∀ z, z < n → f z = f' z) (hg : ∀ z, z < len → g z = g' z) (he : e ≤ len) : tb (dp_c (sq_F n f b) g s) n (e - s) = tb (dp_c (sq_F n f' b) g' s) n (e - s) := by
  refine tb_cong _ n (e - s) rfl (fun x y hx hy => ?_)
  unfold dp_c
  rw [sq_F_cong hf x hx, hg (s + y) (by omega)]
theorem wtB_cong {L L' Q Q' : Nat → Int32} {n : Nat} (hL : ∀ z, z < n → L z = L' z) (hQ : ∀ z, z < n → Q z = Q' z) : ∀ W a p, (∀ t ∈ W, t = 1 ∨ t = 2 ∨ t = 3) → a + nA W ≤ n → wtB L Q W a p = wtB L' Q' W a p := by
  intro W
  induction W with
  | nil => intro a p _ _; rfl
  | cons t W ih =>
    intro a p hW hA
    have hW' : ∀ t ∈ W, t = 1 ∨ t = 2 ∨ t = 3 := fun t ht => hW t (List.mem_cons_of_mem _ ht)
    rw [nA_cons] at hA
    rcases hW t List.mem_cons_self with rfl | rfl | rfl
    · have hA : a + (nA W + 1) ≤ n := hA
      show wt_b1 L Q a p ++ wtB L Q W (a + 1) (p + 1) = wt_b1 L' Q' a p ++ wtB L' Q' W (a + 1) (p + 1)
      rw [ih _ _ hW' (by omega)]
      unfold wt_b1
      rw [hL a (by omega), hQ a (by omega)]
    · exact ih a (p + 1) hW' hA
    · have hA : a + (nA W + 1) ≤ n := hA
      exact ih (a + 1) p hW' (by omega)
theorem wtK_cong {L L' Q Q' : Nat → Int32} {n : Nat} (hL : ∀ z, z < n → L z = L' z) (hQ : ∀ z, z < n → Q z = Q' z) : ∀ W a p last lo pin, (∀ t ∈ W, t = 1 ∨ t = 2 ∨ t = 3) → a + nA W ≤ n → (∀ a0 p0, last = some (a0, p0) → a0 < n) → wtK L Q W a p last lo pin = wtK L' Q' W a p last lo pin := by
  intro W
  induction W with
  | nil => intro a p last lo pin _ _ _; rfl
  | cons t W ih =>
    intro a p last lo pin hW hA hl
    have hW' : ∀ t ∈ W, t = 1 ∨ t = 2 ∨ t = 3 := fun t ht => hW t (List.mem_cons_of_mem _ ht)
    rw [nA_cons] at hA
    rcases hW t List.mem_cons_self with rfl | rfl | rfl
    · have hA : a + (nA W + 1) ≤ n := hA
      show wt_one Q a last lo pin ++ wtK L Q W (a + 1) (p + 1) (some (a, p)) 0 1 = wt_one Q' a last lo pin ++ wtK L' Q' W (a + 1) (p + 1) (some (a, p)) 0 1
      rw [ih _ _ _ _ _ hW' (by omega) (fun a0 p0 e => by cases e; omega)]
      unfold wt_one
      match last, hl with
      | none, _ => rfl
      | some (a0, p0), hl =>
        simp only
        rw [hQ a (by omega), hQ a0 (hl a0 p0 rfl)]
    · exact ih a (p + 1) last (lo + 1) pin hW' hA hl
    · have hA : a + (nA W + 1) ≤ n := hA
      show wtK L Q W (a + 1) p last lo (wt_wl pin (L a)) = wtK L' Q' W (a + 1) p last lo (wt_wl pin (L' a))
      rw [hL a (by omega)]
      exact ih (a + 1) p last lo _ hW' (by omega) hl
/-- a read's script, and what it shows -/
def rd_T (n : Nat) (f g : Nat → Int32) : pl_Q → List Nat
  | none => []
  | some (_, s, e, b, fe, ls) => if ls < fe then tb (dp_c (sq_F n f b) g s) n (e - s) else []
def rd_B (n : Nat) (f fq g : Nat → Int32) : pl_Q → List ob_B
  | none => []
  | some (_, s, e, b, fe, ls) => if ls < fe then wtB (sq_F n f b) (sq_FQ n fq b) (tb (dp_c (sq_F n f b) g s) n (e - s)).reverse 0 s else []
def rd_K (n : Nat) (f fq g : Nat → Int32) : pl_Q → List ob_K
  | none => []
  | some (_, s, e, b, fe, ls) => if ls < fe then wtK (sq_F n f b) (sq_FQ n fq b) (tb (dp_c (sq_F n f b) g s) n (e - s)).reverse 0 s none 0 1 else []
theorem rd_T_s {n l s e b fe ls : Nat} {f g : Nat → Int32} : rd_T n f g (some (l, s, e, b, fe, ls)) = if ls < fe then tb (dp_c (sq_F n f b) g s) n (e - s) else [] := rfl
theorem rd_B_s {n l s e b fe ls : Nat} {f fq g : Nat → Int32} : rd_B n f fq g (some (l, s, e, b, fe, ls)) = if ls < fe then wtB (sq_F n f b) (sq_FQ n fq b) (tb (dp_c (sq_F n f b) g s) n (e - s)).reverse 0 s else [] := rfl
theorem rd_K_s {n l s e b fe ls : Nat} {f fq g : Nat → Int32} : rd_K n f fq g (some (l, s, e, b, fe, ls)) = if ls < fe then wtK (sq_F n f b) (sq_FQ n fq b) (tb (dp_c (sq_F n f b) g s) n (e - s)).reverse 0 s none 0 1 else [] := rfl
theorem sq_op_ok {x : Int32} (h : ∃ v : Nat, v ≤ 4 ∧ x = nI v) : ∃ v : Nat, v ≤ 4 ∧ sq_op x = nI v := by
  obtain ⟨v, hv, rfl⟩ := h
  rcases (show v = 0 ∨ v = 1 ∨ v = 2 ∨ v = 3 ∨ v = 4 by omega) with rfl | rfl | rfl | rfl | rfl
  · exact ⟨3, by decide, by decide⟩
  · exact ⟨2, by decide, by decide⟩
  · exact ⟨1, by decide, by decide⟩
  · exact ⟨0, by decide, by decide⟩
  · exact ⟨4, by decide, by decide⟩
theorem sq_F_ok {n b : Nat} {f : Nat → Int32} (h : ∀ z, z < n → ∃ v : Nat, v ≤ 4 ∧ f z = nI v) : ∀ z, z < n → ∃ v : Nat, v ≤ 4 ∧ sq_F n f b z = nI v := by
  intro z hz
  unfold sq_F
  by_cases e : b = 0
  · rw [if_pos e]
    exact h z hz
  · rw [if_neg e]
    unfold sq_tl
    rw [if_pos hz]
    exact sq_op_ok (h (n - 1 - z) (by omega))
theorem sq_FQ_ok {n b : Nat} {f : Nat → Int32} (h : ∀ z, z < n → ∃ v : Nat, v ≤ 93 ∧ f z = nI v) : ∀ z, z < n → ∃ v : Nat, v ≤ 93 ∧ sq_FQ n f b z = nI v := by
  intro z hz
  unfold sq_FQ
  by_cases e : b = 0
  · rw [if_pos e]
    exact h z hz
  · rw [if_neg e]
    unfold sq_tq
    rw [if_pos hz]
    exact h (n - 1 - z) (by omega)
/-- what m reads may have shown -/
def gt_ok (len : Nat) (g : Nat → Int32) (m : Nat) (B : List ob_B) (K : List ob_K) : Prop := (ok_B len B ∧ ok_K len K) ∧ (B.length ≤ 16 * m ∧ K.length ≤ 16 * m) ∧ (∀ p, (at_B p B).length ≤ m ∧ (at_K p K).length ≤ m) ∧ xB g B + xK K ≤ 3 * m
theorem gt_0 (len : Nat) (g : Nat → Int32) : gt_ok len g 0 [] [] := ⟨⟨(fun o ho => by cases ho), (fun o ho => by cases ho)⟩, ⟨Nat.le_refl _, Nat.le_refl _⟩, fun p => ⟨Nat.le_refl _, Nat.le_refl _⟩, Nat.le_refl _⟩
theorem gt_app {len m : Nat} {g : Nat → Int32} {B B2 : List ob_B} {K K2 : List ob_K} (h : gt_ok len g m B K) (h1 : ok_B len B2) (h2 : ok_K len K2) (h3 : B2.length ≤ 16) (h4 : K2.length ≤ 16) (h5 : ∀ p, (at_B p B2).length ≤ 1) (h6 : ∀ p, (at_K p K2).length ≤ 1) (h7 : xB g B2 + xK K2 ≤ 3) : gt_ok len g (m + 1) (B ++ B2) (K ++ K2) := by
  obtain ⟨⟨a1, a2⟩, ⟨a3, a4⟩, a5, a6⟩ := h
  refine ⟨⟨fun o ho => ?_, fun o ho => ?_⟩, ⟨?_, ?_⟩, fun p => ⟨?_, ?_⟩, ?_⟩
  · rcases List.mem_append.mp ho with q | q
    · exact a1 o q
    · exact h1 o q
  · rcases List.mem_append.mp ho with q | q
    · exact a2 o q
    · exact h2 o q
  · rw [List.length_append]
    omega
  · rw [List.length_append]
    omega
  · rw [at_B_app, List.length_append]
    have := (a5 p).1
    have := h5 p
    omega
  · rw [at_K_app, List.length_append]
    have := (a5 p).2
    have := h6 p
    omega
  · rw [xB_app, xK_app]
    omega
/-- one read more -/
theorem gt_read {len m k n : Nat} {f fq g : Nat → Int32} {B : List ob_B} {K : List ob_K} {Q : pl_Q} (h : gt_ok len g m B K) (hn16 : n ≤ 16) (hf : ∀ z, z < n → ∃ v : Nat, v ≤ 4 ∧ f z = nI v) (hq : ∀ z, z < n → ∃ v : Nat, v ≤ 93 ∧ fq z = nI v) (hk : k ≤ 3) (hQ : pl_ok k n len f g Q) : gt_ok len g (m + 1) (B ++ rd_B n f fq g Q) (K ++ rd_K n f fq g Q) := by
  have nil : gt_ok len g (m + 1) (B ++ []) (K ++ []) := gt_app h (fun o ho => by cases ho) (fun o ho => by cases ho) (Nat.zero_le _) (Nat.zero_le _) (fun p => Nat.zero_le _) (fun p => Nat.zero_le _) (Nat.zero_le _)
  match Q, hQ with
  | none, _ => exact nil
  | some (l, s, e, b, fe, ls), hQ =>
    obtain ⟨q1, q2, q3, q4, q5⟩ := hQ
    rw [rd_B_s, rd_K_s]
    by_cases hlt : ls < fe
    · rw [if_pos hlt, if_pos hlt]
      obtain ⟨-, r2, r3, r4, r5, r6⟩ := wt_read (L := sq_F n f b) (Q := sq_FQ n fq b) (g := g) (n := n) (len := len) (s := s) (e := e) (K := l) (T := tb (dp_c (sq_F n f b) g s) n (e - s)) (sq_F_ok hf) (sq_FQ_ok hq) q2 q3 q5.symm (by omega) rfl
      exact gt_app h r2 r3 (by omega) (by omega) (fun p => wtB_one _ _ _ _ _ _) (fun p => wtK_one _ _ _ _ _ _ _ _ _ (fun a0 p0 e => by cases e)) r6
    · rw [if_neg hlt, if_neg hlt]
      exact nil
/-- observations in numbers -/
def ob_OB (B : List ob_B) : mo_O := B.map (fun o => (o.1, o.2.1.toNatClampNeg, o.2.2.toNatClampNeg))
def ob_OK (K : List ob_K) : mo_O := K.map (fun o => (o.1, o.2.1, o.2.2.toNatClampNeg))
theorem at_B_cons (p : Nat) (o : ob_B) (B : List ob_B) : at_B p (o :: B) = if o.1 = p then o.2 :: at_B p B else at_B p B := by
  unfold at_B
  rw [List.filter_cons]
  by_cases h : o.1 = p
  · simp [h]
  · simp [h]
theorem at_K_cons (p : Nat) (o : ob_K) (K : List ob_K) : at_K p (o :: K) = if o.1 = p then (nI o.2.1, o.2.2) :: at_K p K else at_K p K := by
  unfold at_K
  rw [List.filter_cons]
  by_cases h : o.1 = p
  · simp [h]
  · simp [h]
theorem at_OB {len p : Nat} : ∀ {B : List ob_B}, ok_B len B → at_B p B = jd_l (mo_at p (ob_OB B)) := by
  intro B
  induction B with
  | nil => intro _; rfl
  | cons o B ih =>
    intro h
    have ih := ih (fun q hq => h q (List.mem_cons_of_mem _ hq))
    obtain ⟨-, b, q, hb, hq, e1, e2⟩ := h o List.mem_cons_self
    show at_B p (o :: B) = jd_l (mo_at p ((o.1, o.2.1.toNatClampNeg, o.2.2.toNatClampNeg) :: ob_OB B))
    rw [at_B_cons, mo_at_cons, ih]
    by_cases hp : o.1 = p
    · rw [if_pos hp, if_pos hp]
      show o.2 :: _ = (nI o.2.1.toNatClampNeg, nI o.2.2.toNatClampNeg) :: _
      rw [e1, e2, nI_clamp (n := b) (by omega), nI_clamp (n := q) (by omega), ← e1, ← e2]
      rfl
    · rw [if_neg hp, if_neg hp]
theorem at_OK {len p : Nat} : ∀ {K : List ob_K}, ok_K len K → at_K p K = jd_l (mo_at p (ob_OK K)) := by
  intro K
  induction K with
  | nil => intro _; rfl
  | cons o K ih =>
    intro h
    have ih := ih (fun q hq => h q (List.mem_cons_of_mem _ hq))
    obtain ⟨-, -, -, q, hq, e2⟩ := h o List.mem_cons_self
    show at_K p (o :: K) = jd_l (mo_at p ((o.1, o.2.1, o.2.2.toNatClampNeg) :: ob_OK K))
    rw [at_K_cons, mo_at_cons, ih]
    by_cases hp : o.1 = p
    · rw [if_pos hp, if_pos hp]
      show (nI o.2.1, o.2.2) :: _ = (nI o.2.1, nI o.2.2.toNatClampNeg) :: _
      rw [e2, nI_clamp (n := q) (by omega)]
      rfl
    · rw [if_neg hp, if_neg hp]
theorem jd_l_len (s : jd_s) : (jd_l s).length = s.length := List.length_map _
theorem sw_of {len m : Nat} {g : Nat → Int32} {B : List ob_B} {K : List ob_K} (h : gt_ok len g m B K) (hm : m ≤ 8) (h48 : len ≤ 48) (h0 : 0 < len) : sw_ok len (ob_OB B) (ob_OK K) := by
  obtain ⟨⟨a1, a2⟩, ⟨a3, a4⟩, a5, a6⟩ := h
  refine ⟨h48, h0, ⟨by unfold ob_OB; rw [List.length_map]; omega, fun o ho => ?_⟩, ⟨by unfold ob_OK; rw [List.length_map]; omega, fun o ho => ?_⟩, fun p => ⟨?_, ?_⟩⟩
  · obtain ⟨u, hu, rfl⟩ := List.mem_map.mp ho
    obtain ⟨u1, b, q, hb, hq, e1, e2⟩ := a1 u hu
    refine ⟨u1, ?_, ?_⟩
    · show u.2.1.toNatClampNeg < 4
      rw [e1, nI_clamp (by omega)]
      exact hb
    · show u.2.2.toNatClampNeg ≤ 93
      rw [e2, nI_clamp (by omega)]
      exact hq
  · obtain ⟨u, hu, rfl⟩ := List.mem_map.mp ho
    obtain ⟨u1, u2, u3, q, hq, e2⟩ := a2 u hu
    refine ⟨u1, u2, u3, ?_⟩
    show u.2.2.toNatClampNeg ≤ 93
    rw [e2, nI_clamp (by omega)]
    exact hq
  · have := (a5 p).1
    rw [at_OB a1, jd_l_len] at this
    omega
  · have := (a5 p).2
    rw [at_OK a2, jd_l_len] at this
    omega
theorem xo_of {len : Nat} {f : Nat → Nat} {B : List ob_B} {K : List ob_K} (hf : ∀ p, p < len → f p < 4) (a1 : ok_B len B) : xo_n f (ob_OB B) len + xo_n (fun _ => 0) (ob_OK K) len ≤ xB (fun p => nI (f p)) B + xK K := by
  have h1 : ∀ {B : List ob_B}, ok_B len B → xo_n f (ob_OB B) len ≤ xB (fun p => nI (f p)) B := by
    intro B
    induction B with
    | nil => intro _; exact Nat.le_refl _
    | cons o B ih =>
      intro h
      have ih := ih (fun q hq => h q (List.mem_cons_of_mem _ hq))
      obtain ⟨ho, b, q, hb, hq, e1, e2⟩ := h o List.mem_cons_self
      show xo_n f ((o.1, o.2.1.toNatClampNeg, o.2.2.toNatClampNeg) :: ob_OB B) len ≤ _
      rw [xo_cons]
      unfold xB at ih ⊢
      rw [List.countP_cons]
      show xo_n f (ob_OB B) len + (if o.1 < len ∧ o.2.1.toNatClampNeg ≠ f o.1 then 1 else 0) ≤ _
      rw [e1, nI_clamp (n := b) (by omega)]
      have := hf o.1 ho
      by_cases e : b = f o.1
      · rw [if_neg (by omega)]
        omega
      · have ne : ¬ nI b = nI (f o.1) := fun z => e ((nI_eq (by omega) (by omega)).mp z)
        have : (!(nI b == nI (f o.1))) = true := by simp [ne]
        rw [this, if_pos rfl]
        split <;> omega
  have h2 : ∀ {K : List ob_K}, xo_n (fun _ => 0) (ob_OK K) len ≤ xK K := by
    intro K
    induction K with
    | nil => exact Nat.le_refl _
    | cons o K ih =>
      show xo_n (fun _ => 0) ((o.1, o.2.1, o.2.2.toNatClampNeg) :: ob_OK K) len ≤ _
      rw [xo_cons]
      unfold xK at ih ⊢
      rw [List.countP_cons]
      show xo_n (fun _ => 0) (ob_OK K) len + (if o.1 < len ∧ o.2.1 ≠ 0 then 1 else 0) ≤ _
      by_cases e : o.2.1 = 0
      · rw [if_neg (fun z => z.2 e)]
        omega
      · have : (!(o.2.1 == 0)) = true := by simp [e]
        rw [this, if_pos rfl]
        split <;> omega
  have := h1 a1
  have := h2 (K := K)
  omega
theorem pi_OS {i : o_I} {pi len : Nat} {B : List ob_B} {K : List ob_K} (h : pi_S i pi B K) (a1 : ok_B len B) (a2 : ok_K len K) : pi_O i pi (ob_OB B) (ob_OK K) := fun p hp => by
  have := h p hp
  rw [at_OB a1, at_OK a2] at this
  exact this
theorem ms_OS {i : o_I} {y len : Nat} {B : List ob_B} {K : List ob_K} (h1 : mb_S i y B) (h2 : mk_S i y K) (a1 : ok_B len B) (a2 : ok_K len K) : ms_D i y (ob_OB B) (ob_OK K) := by
  obtain ⟨b1, -, b3⟩ := h1
  obtain ⟨k1, -, k3⟩ := h2
  refine ⟨⟨?_, fun k o ho => ?_⟩, ⟨?_, fun k o ho => ?_⟩⟩
  · unfold mo_fm ob_OB
    rw [List.length_map, List.length_map]
    exact b1
  · unfold mo_fm ob_OB at ho
    rw [List.getElem?_map, List.getElem?_map, Option.map_map] at ho
    obtain ⟨u, hu, rfl⟩ := Option.map_eq_some_iff.mp ho
    obtain ⟨c1, c2, c3⟩ := b3 k u hu
    obtain ⟨-, b, q, hb, hq, e1, e2⟩ := a1 u (List.mem_of_getElem? hu)
    refine ⟨c1, ?_, ?_⟩
    · show i (y + 19) k = nI (fm 0 u.2.1.toNatClampNeg)
      rw [c2, e1, nI_clamp (by omega)]
      rfl
    · show i (y + 20) k = nI u.2.2.toNatClampNeg
      rw [c3, e2, nI_clamp (by omega)]
  · unfold mo_fm ob_OK
    rw [List.length_map, List.length_map]
    exact k1
  · unfold mo_fm ob_OK at ho
    rw [List.getElem?_map, List.getElem?_map, Option.map_map] at ho
    obtain ⟨u, hu, rfl⟩ := Option.map_eq_some_iff.mp ho
    obtain ⟨c1, c2, c3⟩ := k3 k u hu
    obtain ⟨-, -, -, q, hq, e2⟩ := a2 u (List.mem_of_getElem? hu)
    refine ⟨c1, c2, ?_⟩
    show i (y + 23) k = nI u.2.2.toNatClampNeg
    rw [c3, e2, nI_clamp (by omega)]

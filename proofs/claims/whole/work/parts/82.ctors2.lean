/-! CONSTRUCTORS with rows of rows, and with loops -/
theorem n_W_at {G : o_G} {x n : Nat} {i : o_I} {r : n_R} {H : Heap} : n_W G x n i r H ↔ ∀ k, k < n → va_at G.2.1 vwCl (x + k, n_ce (o_kA G) (o_S G) i r (x + k)) H := by
  have key : ∀ k, k < n → (n_w G x n i r)[k]? = some (x + k, n_ce (o_kA G) (o_S G) i r (x + k)) := fun k hk => by
    unfold n_w va_pl
    rw [List.getElem?_map, List.getElem?_range' hk, Nat.one_mul]
    rfl
  constructor
  · intro h k hk
    exact h k _ (key k hk)
  · intro h k q hq
    have hk : k < n := by
      have := (List.getElem?_eq_some_iff.mp hq).1
      rw [n_len] at this
      exact this
    rw [key k hk] at hq
    cases hq
    exact h k hk
/-- the places of row a point to the N cells behind it -/
def n_rows (r : n_R) (a N : Nat) : n_R := fun b k => if b = a ∧ k < N then some (a + 1 + k) else r b k
theorem n_rows_s {r : n_R} {a N k : Nat} (h : k < N) : n_rows r a N a k = some (a + 1 + k) := by
  unfold n_rows
  rw [if_pos ⟨rfl, h⟩]
theorem n_rows_a {r : n_R} {a N b k : Nat} (h : b ≠ a) : n_rows r a N b k = r b k := by
  unfold n_rows
  rw [if_neg (fun q => h q.1)]
theorem n_outer (c : ClassId) (N h0 : Nat) : ∀ q : Nat, Jvm.Free.Multi.outerC c N h0 q = arrV c N (fun j => va_rf (if j < q then some (h0 + 1 + j) else none)) := by
  intro q
  induction q with
  | zero =>
    show ({ cls := c, slots := Array.replicate N .null, vm := .none } : Cell) = _
    rw [arrV_new]
    refine arrV_cg (fun j _ => ?_)
    rw [if_neg (Nat.not_lt_zero _)]
    rfl
  | succ q ih =>
    show (Jvm.Free.Multi.outerC c N h0 q).setSlot q (.ref (h0 + 1 + q)) = _
    rw [ih, arrV_store]
    refine arrV_cg (fun j _ => ?_)
    unfold updV
    by_cases e : j = q
    · rw [if_pos e, if_pos (by omega), e]
      rfl
    · rw [if_neg e]
      show va_rf (if j < q then some (h0 + 1 + j) else none) = _
      by_cases h : j < q
      · rw [if_pos h, if_pos (by omega)]
      · rw [if_neg h, if_neg (by omega)]
theorem n_s_rows {S : Nat → Nat × Nat} {x n N K : Nat} (h0 : S (x + n) = (3, N)) : ∀ q, (∀ z, z < q → S (x + (n + 1 + z)) = (1, K)) → n_s S x (n + 1 + q) = n_s S x n + N + q * K := by
  intro q
  induction q with
  | zero =>
    intro _
    show n_s S x n + n_sl (S (x + n)) = _
    rw [h0, Nat.zero_mul]
    rfl
  | succ q ih =>
    intro h
    show n_s S x (n + 1 + q) + n_sl (S (x + (n + 1 + q))) = _
    rw [ih (fun z hz => h z (by omega)), h q (by omega), Nat.succ_mul]
    show n_s S x n + N + q * K + K = _
    omega
/-- the tables have the class of rows of whole numbers -/
def n_AO1 (U : State) : Prop := (Cond.arrayOver (.array .int)).before #[] U = true
section NM
variable {G : o_G} {x n0 n1 : Nat} {M : o_M} {C : n_Cx} {pc : Nat} {lv : List (Option Value)} {st : List Value} {n : Nat} {i : o_I} {r : n_R}
theorem nk_mna {idx n2 : Nat} {vn vk : Int32} (N K : Nat) (hd : decode M.2.1 pc = .ok (.multianewarray idx 2, 4)) (hcl : Cond.classLink M.1.cls idx "[[I" ∈ o_wt) (hao : ∀ U : State, o_E G U → n_AO1 U) (harr : Cond.arrayClass .int ∈ o_wt) (hvn : vn = nI N) (hvk : vk = nI K) (hN : N ≤ 1000) (hK : K ≤ 1000) (hn2 : n2 = n + 1 + N) (hn : n2 ≤ n1) (hs : o_S G (x + n) = (3, N)) (hs2 : ∀ z, z < N → o_S G (x + (n + 1 + z)) = (1, K)) (hI : n_I G x n i r) (kk : NkC G x n0 n1 M C (pc + 4) lv (.ref (x + n) :: st) n2 i (n_rows r (x + n) N)) : NkC G x n0 n1 M C pc lv (.int vk :: .int vn :: st) n i r := fun p e R s m args below meth c Q hC Y h0 h1 H locs ls hl hW hS => by
  obtain ⟨X, hnm, hsz, ⟨hRc, hRs⟩, h422, g, hL⟩ := id Y
  have ht := X.2.2.2.2.2.2.1
  have s0 := n_s_rows hs N hs2
  have s1 := n_s_mono (o_S G) x h0
  have s2 := n_s_mono (o_S G) x hn
  subst hn2 hvn hvk
  have cN : (nI N).toNatClampNeg = N := nI_clamp (by omega)
  have cK : (nI K).toNatClampNeg = K := nI_clamp (by omega)
  refine w_size (fun hle => ?_)
  have hsz2 : H.size = x + n := by
    have a1 := hS.1
    rcases (show n = n0 ∨ n0 < n by omega) with e1 | e1
    · omega
    · have : x + (n - 1) < H.size := (n_W_at.mp hW (n - 1) (by omega)).lt
      omega
  intro T hT Z
  have hclS : "[[I" = "[" ++ (FieldType.array .int).toString := by decide
  rw [hclS] at hcl
  obtain ⟨vm₁, cA, comp, -, fA, fC, -, -, X', step⟩ := Z.multianewarray2F X.1 X.2.2.2.2.2.1 (ht _ hcl) (show (Cond.arrayOver (.array .int)).before args s = true from hao s X.2.2.2.2.2.2.2.2) (ht _ harr) (g := F0 m pc ls (.int (nI K) :: .int (nI N) :: st)) rfl (by rw [X.2.1]; exact hd) rfl (nI_pos (by omega)) (nI_pos (by omega)) (by rw [cN]; omega) (by rw [cK]; show K * 4 ≤ _; omega) (by rw [cK]; omega) rfl rfl (by rw [cN]; omega) (by rw [cN, cK]; omega)
  rw [cN, cK] at X' step
  have eA : cA = o_kA G 3 := by
    have e2 : s.vm.findClass ("[" ++ (FieldType.array .int).toString) = some (o_kA G 3) := (X.2.2.2.2.2.2.2.1.2 2 (o_kA G 3, .array .int) rfl).2
    exact Option.some.inj (fA.symm.trans e2)
  have eC : comp = o_kA G 1 := by
    have e2 : s.vm.findClass ("[" ++ FieldType.int.toString) = some (o_kA G 1) := (X.2.2.2.2.2.2.2.1.2 0 (o_kA G 1, .int) rfl).2
    exact Option.some.inj (fC.symm.trans e2)
  subst eA eC
  have hTh : (T.setVm vm₁).heap = H := hT
  obtain ⟨f1, f2, -, -⟩ := Jvm.Free.Multi.fill_facts (T.setVm vm₁) (o_kA G 3) (o_kA G 1) N K (defaultValue .int) N
  have f3 := fun (a : Nat) (ha : a < H.size) => Jvm.Free.Multi.fill_old (T.setVm vm₁) (o_kA G 3) (o_kA G 1) N K (defaultValue .int) (a := a) (by rw [hTh]; exact ha) N
  have f4 := fun (j : Nat) (hj : j < N) => Jvm.Free.Multi.fill_inner (T.setVm vm₁) (o_kA G 3) (o_kA G 1) N K (defaultValue .int) N j hj
  rw [hTh] at f1 f2
  simp only [hTh] at f3 f4
  rw [hsz2] at f1 f2
  simp only [hsz2] at f3 f4
  generalize hF : Jvm.Free.Multi.fill (T.setVm vm₁) (o_kA G 3) (o_kA G 1) N K (defaultValue .int) N = F at X' step f1 f2 f3 f4
  rw [show n - n0 + 1 + N = n + 1 + N - n0 by omega, show n_s (o_S G) x n - n_s (o_S G) x n0 + N + N * K = n_s (o_S G) x (n + 1 + N) - n_s (o_S G) x n0 by omega] at X'
  have hW2 : n_W G x (n + 1 + N) i (n_rows r (x + n) N) F.heap := n_W_at.mpr (fun k hk => by
    rcases (show k < n ∨ k = n ∨ (n < k ∧ k - n - 1 < N) by omega) with h | h | ⟨h, h2⟩
    · rw [n_ce_cg (i := i) (r := r) rfl (funext fun _ => n_rows_a (by omega))]
      exact (n_W_at.mp hW k h).kept (f3 (x + k) (by omega))
    · subst h
      rw [n_ce_r 0 hs]
      show F.heap[x + k]? = some (vp_cell (o_kA G 3) (N, .inr (.inr (.inr (.inr (n_rows r (x + k) N (x + k)))))))
      rw [f2, vp_cell_q, n_outer]
      refine congrArg some (arrV_cg (fun j hj => ?_))
      rw [if_pos hj, n_rows_s hj]
    · have hk2 : x + k = x + (n + 1 + (k - n - 1)) := by omega
      rw [hk2, n_ce_1 (hs2 _ h2)]
      show F.heap[x + (n + 1 + (k - n - 1))]? = some (vp_cell (o_kA G 1) (K, .inl (i (x + (n + 1 + (k - n - 1))))))
      have := f4 (k - n - 1) h2
      rw [show x + n + 1 + (k - n - 1) = x + (n + 1 + (k - n - 1)) by omega] at this
      rw [this, vp_cell_i]
      show some ({ cls := o_kA G 1, slots := Array.replicate K (.int 0), vm := .none } : Cell) = _
      rw [arrV_new]
      refine congrArg some (arrV_cg (fun j _ => ?_))
      rw [(hI.1 _ j (by omega)).1])
  have hS2 : va_S (n_A x) s.heap F.heap locs := ⟨by rw [f1]; have := hS.1; omega, fun q h1 h2 => by
    rw [f3 q (by have := hS.1; omega)]
    exact hS.2.1 q h1 h2, hS.2.2⟩
  obtain ⟨t2, a1, b1⟩ := kk p e R s m args below meth c Q hC Y (by omega) hn F.heap locs ls hl hW2 hS2 F rfl X'
  refine ⟨t2, step t2 ?_, b1⟩
  have : T.heap.size = x + n := by rw [hT]; exact hsz2
  rw [this]
  exact a1
end NM
set_option maxRecDepth 100000 in
set_option maxHeartbeats 4000000 in
theorem nt_Aligner {G : o_G} {x d n t : Nat} {i : o_I} {r : n_R} (hao : ∀ U : State, o_E G U → n_AO1 U) (hI0 : n_I G x n i r) (hx : x ≤ t) (ht : t < x + n) (hsh : o_S G t = (0, 1)) (hs : o_S G (x + n) = (3, 17)) (hs2 : ∀ z, z < 17 → o_S G (x + (n + 1 + z)) = (1, 20)) : NSp G x (d + 1) n (n + 18) mX1_init [.ref t] (fun j q => n_I G x (n + 18) j q ∧ (∀ a k, a ≠ t → a < x + n → q a k = r a k) ∧ q t 0 = some (x + n) ∧ ∀ z, z < 17 → q (x + n) z = some (x + n + 1 + z)) i r := by
  refine nsp_of 0 (by decide +kernel) (Nat.le_of_ble_eq_true rfl) rfl (by omega) ?_
  refine nk_aload_n 0 dX1_init_0 rfl rfl ?_
  refine nk_obj n_rc dX1_init_1 w_ob1 w_obj1 w_obj2 (Nat.le_of_ble_eq_true rfl) ?_
  refine nk_aload_n 0 dX1_init_4 rfl rfl ?_
  refine nk_bipush 17 dX1_init_5 (by decide) ?_
  refine nk_bipush 20 dX1_init_7 (by decide) ?_
  refine nk_mna (n2 := n + 18) 17 20 dX1_init_9 w_cl1_9 hao w_ac1 rfl rfl (by decide) (by decide) (by omega) (by omega) hs hs2 hI0 ?_
  have hI1 : n_I G x (n + 18) i (n_rows r (x + n) 17) := ⟨fun a k ha => ⟨(hI0.1 a k (by omega)).1, by rw [n_rows_a (by omega)]; exact (hI0.1 a k (by omega)).2⟩, hI0.2⟩
  refine nk_putr 1 0 (.array (.array .int)) dX1_init_13 f1_11 rfl (Or.inr ⟨rfl, rfl, rfl⟩) (by decide +kernel) rfl rfl hx (by omega) hsh ?_
  have hI2 := hI1.upr (a := t) (k := 0) (y := x + n) (by omega)
  refine nk_aload_n 0 dX1_init_16 rfl rfl ?_
  refine nk_iconst 0 dX1_init_17 (by decide) ?_
  refine nk_puti 1 1 .int dX1_init_18 f1_16 rfl (Or.inl rfl) (by decide +kernel) rfl rfl hx (by omega) hsh ?_
  have hI3 := hI2.up0 (a := t) (k := 1)
  refine nk_aload_n 0 dX1_init_21 rfl rfl ?_
  refine nk_iconst 0 dX1_init_22 (by decide) ?_
  refine nk_puti 1 2 .boolean dX1_init_23 f1_20 rfl (Or.inl rfl) (by decide +kernel) rfl rfl hx (by omega) hsh ?_
  have hI4 := hI3.up0 (a := t) (k := 2)
  refine nk_aload_n 0 dX1_init_26 rfl rfl ?_
  refine nk_iconst 0 dX1_init_27 (by decide) ?_
  refine nk_puti 1 3 .int dX1_init_28 f1_24 rfl (Or.inl rfl) (by decide +kernel) rfl rfl hx (by omega) hsh ?_
  have hI5 := hI4.up0 (a := t) (k := 3)
  refine nk_aload_n 0 dX1_init_31 rfl rfl ?_
  refine nk_iconst 0 dX1_init_32 (by decide) ?_
  refine nk_puti 1 4 .int dX1_init_33 f1_27 rfl (Or.inl rfl) (by decide +kernel) rfl rfl hx (by omega) hsh ?_
  have hI6 := hI5.up0 (a := t) (k := 4)
  refine nk_aload_n 0 dX1_init_36 rfl rfl ?_
  refine nk_iconst 0 dX1_init_37 (by decide) ?_
  refine nk_puti 1 5 .boolean dX1_init_38 f1_30 rfl (Or.inl rfl) (by decide +kernel) rfl rfl hx (by omega) hsh ?_
  have hI7 := hI6.up0 (a := t) (k := 5)
  refine nk_aload_n 0 dX1_init_41 rfl rfl ?_
  refine nk_iconst 0 dX1_init_42 (by decide) ?_
  refine nk_puti 1 6 .int dX1_init_43 f1_33 rfl (Or.inl rfl) (by decide +kernel) rfl rfl hx (by omega) hsh ?_
  have hI8 := hI7.up0 (a := t) (k := 6)
  refine nk_aload_n 0 dX1_init_46 rfl rfl ?_
  refine nk_iconst 0 dX1_init_47 (by decide) ?_
  refine nk_puti 1 7 .int dX1_init_48 f1_36 rfl (Or.inl rfl) (by decide +kernel) rfl rfl hx (by omega) hsh ?_
  have hI9 := hI8.up0 (a := t) (k := 7)
  refine nk_vret dX1_init_51 rfl rfl ⟨hI9, fun a k h1 h2 => ?_, n_up_s, fun z hz => ?_⟩
  · rw [n_up_a h1, n_rows_a (by omega)]
  · rw [n_up_a (by omega), n_rows_s hz]

/-! ROWS OVER A WORLD THAT GROWS -/
section NK
variable {G : o_G} {x n0 n1 : Nat} {M : o_M} {C : n_Cx} {pc : Nat} {lv : List (Option Value)} {st : List Value} {n : Nat} {i : o_I} {r : n_R}
theorem nk_wk (lv' : List (Option Value)) (hw : o_sub lv' lv) (kk : NkC G x n0 n1 M C pc lv' st n i r) : NkC G x n0 n1 M C pc lv st n i r := fun p e R s m args below meth c Q hC Y h0 h1 H locs ls hl hW hS => kk p e R s m args below meth c Q hC Y h0 h1 H locs ls (hl.wk (o_sub_get hw)) hW hS
theorem nk_iconst {z : Int} (v : Int32) (hd : decode M.2.1 pc = .ok (.iconst z, 1)) (hv : Int32.ofInt z = v) (kk : NkC G x n0 n1 M C (pc + 1) lv (.int v :: st) n i r) : NkC G x n0 n1 M C pc lv st n i r := fun p e R s m args below meth c Q hC Y h0 h1 H locs ls hl hW hS => lv_iconst Y.1.1 Y.1.2.1 hd hv (kk p e R s m args below meth c Q hC Y h0 h1 H locs ls hl hW hS)
theorem nk_bipush {z : Int} (v : Int32) (hd : decode M.2.1 pc = .ok (.bipush z, 2)) (hv : (Int8.ofInt z).toInt32 = v) (kk : NkC G x n0 n1 M C (pc + 2) lv (.int v :: st) n i r) : NkC G x n0 n1 M C pc lv st n i r := fun p e R s m args below meth c Q hC Y h0 h1 H locs ls hl hW hS => lv_bipush Y.1.1 Y.1.2.1 hd hv (kk p e R s m args below meth c Q hC Y h0 h1 H locs ls hl hW hS)
theorem nk_sipush {z : Int} (v : Int32) (hd : decode M.2.1 pc = .ok (.sipush z, 3)) (hv : (Int16.ofInt z).toInt32 = v) (kk : NkC G x n0 n1 M C (pc + 3) lv (.int v :: st) n i r) : NkC G x n0 n1 M C pc lv st n i r := fun p e R s m args below meth c Q hC Y h0 h1 H locs ls hl hW hS => lv_sipush Y.1.1 Y.1.2.1 hd hv (kk p e R s m args below meth c Q hC Y h0 h1 H locs ls hl hW hS)
theorem nk_iload_n {k : Fin 4} (j : Nat) {v : Int32} (hd : decode M.2.1 pc = .ok (.iload_n k, 1)) (hj : (k : Nat) = j) (hx : lv[j]? = some (some (.int v))) (kk : NkC G x n0 n1 M C (pc + 1) lv (.int v :: st) n i r) : NkC G x n0 n1 M C pc lv st n i r := fun p e R s m args below meth c Q hC Y h0 h1 H locs ls hl hW hS => lv_iload_n Y.1.1 Y.1.2.1 hd hj (hl.2.2 j _ hx).2 (kk p e R s m args below meth c Q hC Y h0 h1 H locs ls hl hW hS)
theorem nk_aload_n {k : Fin 4} (j : Nat) {v : Nat} (hd : decode M.2.1 pc = .ok (.aload_n k, 1)) (hj : (k : Nat) = j) (hx : lv[j]? = some (some (.ref v))) (kk : NkC G x n0 n1 M C (pc + 1) lv (.ref v :: st) n i r) : NkC G x n0 n1 M C pc lv st n i r := fun p e R s m args below meth c Q hC Y h0 h1 H locs ls hl hW hS => lv_aload_n Y.1.1 Y.1.2.1 hd hj (hl.2.2 j _ hx).2 (kk p e R s m args below meth c Q hC Y h0 h1 H locs ls hl hW hS)
theorem nk_dup {v : Value} (hd : decode M.2.1 pc = .ok (.dup, 1)) (hv : v.category = 1) (kk : NkC G x n0 n1 M C (pc + 1) lv (v :: v :: st) n i r) : NkC G x n0 n1 M C pc lv (v :: st) n i r := fun p e R s m args below meth c Q hC Y h0 h1 H locs ls hl hW hS => lv_dup Y.1.1 Y.1.2.1 hd hv (kk p e R s m args below meth c Q hC Y h0 h1 H locs ls hl hW hS)
theorem nk_goto {off : Int} (tgt : Nat) (hd : decode M.2.1 pc = .ok (.goto off, 3)) (ht : (pc : Int) + off = (tgt : Int)) (kk : NkC G x n0 n1 M C tgt lv st n i r) : NkC G x n0 n1 M C pc lv st n i r := fun p e R s m args below meth c Q hC Y h0 h1 H locs ls hl hW hS => lv_goto Y.1.1 Y.1.2.1 hd ht (kk p e R s m args below meth c Q hC Y h0 h1 H locs ls hl hW hS)
theorem nk_istore_n {k : Fin 4} (j : Nat) {v : Int32} (hd : decode M.2.1 pc = .ok (.istore_n k, 1)) (hj : (k : Nat) = j) (hn : j < M.2.2.1) (lv' : List (Option Value)) (hs : lv.set j (some (.int v)) = lv') (kk : NkC G x n0 n1 M C (pc + 1) lv' st n i r) : NkC G x n0 n1 M C pc lv (.int v :: st) n i r := fun p e R s m args below meth c Q hC Y h0 h1 H locs ls hl hW hS => lv_istore_n Y.1.1 Y.1.2.1 hd hj hl.has hn rfl (fun ls' h' => kk p e R s m args below meth c Q hC Y h0 h1 H locs ls' (hs ▸ o_lc.st rfl hl h') hW hS)
theorem nk_astore_n {k : Fin 4} (j : Nat) {v : Nat} (hd : decode M.2.1 pc = .ok (.astore_n k, 1)) (hj : (k : Nat) = j) (hn : j < M.2.2.1) (lv' : List (Option Value)) (hs : lv.set j (some (.ref v)) = lv') (kk : NkC G x n0 n1 M C (pc + 1) lv' st n i r) : NkC G x n0 n1 M C pc lv (.ref v :: st) n i r := fun p e R s m args below meth c Q hC Y h0 h1 H locs ls hl hW hS => lv_astore_n Y.1.1 Y.1.2.1 hd hj hl.has hn rfl (fun ls' h' => kk p e R s m args below meth c Q hC Y h0 h1 H locs ls' (hs ▸ o_lc.st rfl hl h') hW hS)
theorem nk_iinc {j : Nat} {z : Int} {v : Int32} (k y : Int32) (hd : decode M.2.1 pc = .ok (.iinc j z, 3)) (hx : lv[j]? = some (some (.int v))) (hk : Int32.ofInt z = k) (hy : y = v + k) (hn : j < M.2.2.1) (lv' : List (Option Value)) (hs : lv.set j (some (.int y)) = lv') (kk : NkC G x n0 n1 M C (pc + 3) lv' st n i r) : NkC G x n0 n1 M C pc lv st n i r := fun p e R s m args below meth c Q hC Y h0 h1 H locs ls hl hW hS => by
  obtain ⟨z0, hz0⟩ := List.getElem?_of_mem (o_al_mem (lv := lv) (q := (j, .int v)) |>.mpr hx)
  exact lv_iinc Y.1.1 Y.1.2.1 hd hl.has hz0 (by rw [hk, hy]) hn rfl (fun ls' h' => kk p e R s m args below meth c Q hC Y h0 h1 H locs ls' (hs ▸ o_lc.st rfl hl h') hW hS)
theorem nk_ic_ge {v y : Int32} {off : Int} (tgt : Nat) (hd : decode M.2.1 pc = .ok (.if_icmp .ge off, 3)) (ht : (pc : Int) + off = (tgt : Int)) (kt : y ≤ v → NkC G x n0 n1 M C tgt lv st n i r) (kf : ¬ y ≤ v → NkC G x n0 n1 M C (pc + 3) lv st n i r) : NkC G x n0 n1 M C pc lv (.int y :: .int v :: st) n i r := fun p e R s m args below meth c Q hC Y h0 h1 H locs ls hl hW hS => lv_icmp_ge Y.1.1 Y.1.2.1 hd ht (fun z => kt z p e R s m args below meth c Q hC Y h0 h1 H locs ls hl hW hS) (fun z => kf z p e R s m args below meth c Q hC Y h0 h1 H locs ls hl hW hS)
/-- new -/
theorem nk_new {idx : Nat} (ci : Nat) (hd : decode M.2.1 pc = .ok (.new idx, 3)) (hck : o_ck ci) (hcl : Cond.classLink M.1.cls idx (o_C ci).1 ∈ o_wt) (hin : Cond.instantiable (o_C ci).1 (o_C ci).2.2 ∈ o_wt) (hini : Cond.initialized (o_C ci).1 ∈ o_wt) (hdf : ∀ k, k < (o_C ci).2.2 → (parseFieldDescriptor ((o_C ci).2.1 k).2.2.1).map defaultValue = some (if o_rf ci k = true then .null else .int 0)) (hn : n < n1) (hsh : o_S G (x + n) = (0, ci)) (hz : ∀ k, i (x + n) k = 0) (hr : ∀ k, r (x + n) k = none) (kk : NkC G x n0 n1 M C (pc + 3) lv (.ref (x + n) :: st) (n + 1) i r) : NkC G x n0 n1 M C pc lv st n i r := fun p e R s m args below meth c Q hC Y h0 h1 H locs ls hl hW hS => by
  obtain ⟨X, hnm, hsz, ⟨hRc, hRs⟩, h422, g, hL⟩ := id Y
  obtain ⟨hc1, hc2, ⟨ty0, hc3⟩, hc4⟩ := hck
  have ht := X.2.2.2.2.2.2.1
  have hsn : n_s (o_S G) x (n + 1) = n_s (o_S G) x n + (o_C ci).2.2 := by
    show _ + n_sl (o_S G (x + n)) = _
    rw [hsh]
    rfl
  have m1 := n_s_mono (o_S G) x h0
  have m2 := n_s_mono (o_S G) x (show n + 1 ≤ n1 by omega)
  refine va_new (ci := ci) (fs := n_fs i r (x + n) ci) (C := (o_C ci).1) (T := (o_C ci).2.1) (N := (o_C ci).2.2) X.1 X.2.1 ht hc2 ty0 hc3 X.2.2.2.2.2.1 (ht _ hcl) (ht _ hin) (ht _ hini) X.2.2.2.2.2.2.2.1 hW (n_D G x n i r) hS (fun q hq => by show x ≤ q; omega) hc1 (fun j hj => ?_) (by omega) (by omega) hd (fun q H1 hP1 hD1 hS1 => ?_)
  · have h9 := hdf j hj
    rw [hc3 j hj] at h9
    have h9 : defaultValue (ty0 j) = (if o_rf ci j = true then .null else .int 0) := by simpa using h9
    rw [h9]
    unfold vp_V
    rw [List.getD_eq_getElem?_getD, n_fs_get hj]
    show _ = n_v i r (x + n) ci j
    unfold n_v
    rw [hz, hr]
    split <;> rfl
  · refine w_size (fun hle => ?_)
    have hlt : q < H1.size := by
      have := hP1 n (q, .inr (ci, n_fs i r (x + n) ci)) (by rw [List.getElem?_append_right (by rw [n_len]; exact Nat.le_refl _), n_len, Nat.sub_self]; rfl)
      exact this.lt
    have hq : q = x + n := n_fresh hD1 (by omega)
    subst hq
    rw [show n - n0 + 1 = n + 1 - n0 by omega, show n_s (o_S G) x n - n_s (o_S G) x n0 + (o_C ci).2.2 = n_s (o_S G) x (n + 1) - n_s (o_S G) x n0 by omega]
    refine kk p e R s m args below meth c Q hC Y (by omega) (by omega) H1 locs ls hl ?_ hS1
    unfold n_W
    rw [n_push, n_ce_O hsh]
    exact hP1
/-- new int[] -/
theorem nk_newi {v : Int32} (N : Nat) (hd : decode M.2.1 pc = .ok (.newarray .int, 2)) (harr : Cond.arrayClass .int ∈ o_wt) (hv : v = nI N) (hN : N ≤ 100000) (hn : n < n1) (hsh : o_S G (x + n) = (1, N)) (hz : ∀ k, i (x + n) k = 0) (kk : NkC G x n0 n1 M C (pc + 2) lv (.ref (x + n) :: st) (n + 1) i r) : NkC G x n0 n1 M C pc lv (.int v :: st) n i r := fun p e R s m args below meth c Q hC Y h0 h1 H locs ls hl hW hS => by
  obtain ⟨X, hnm, hsz, ⟨hRc, hRs⟩, h422, g, hL⟩ := id Y
  have ht := X.2.2.2.2.2.2.1
  have hsn : n_s (o_S G) x (n + 1) = n_s (o_S G) x n + N := by
    show _ + n_sl (o_S G (x + n)) = _
    rw [hsh]
    rfl
  have m1 := n_s_mono (o_S G) x h0
  have m2 := n_s_mono (o_S G) x (show n + 1 ≤ n1 by omega)
  subst hv
  refine va_newa (atype := .int) (ty := .int) (N' := N) (a0 := (N, .inl (fun _ => 0))) X.1 X.2.1 (ht _ harr) rfl X.2.2.2.2.2.2.2.1 hW (n_D G x n i r) hS (fun q hq => by show x ≤ q; omega) (fun _ => rfl) (nI_pos (by omega)) (nI_clamp (by omega)) (by show N * 4 ≤ _; omega) (by omega) (by omega) hd (fun q cA H1 hK1 hP1 hD1 hS1 => ?_)
  refine w_size (fun hle => ?_)
  have hlt : q < H1.size := by
    have := hP1 n (q, .inl (cA, (N, .inl (fun _ => 0)))) (by rw [List.getElem?_append_right (by rw [n_len]; exact Nat.le_refl _), n_len, Nat.sub_self]; rfl)
    exact this.lt
  have hq : q = x + n := n_fresh hD1 (by omega)
  subst hq
  have hcA : cA = o_kA G 1 := by
    have e1 : s.vm.findClass ("[" ++ FieldType.int.toString) = some cA := (hK1.2 5 (cA, .int) rfl).2
    have e2 : s.vm.findClass ("[" ++ FieldType.int.toString) = some (o_kA G 1) := (X.2.2.2.2.2.2.2.1.2 0 (o_kA G 1, .int) rfl).2
    exact Option.some.inj (e1.symm.trans e2)
  subst hcA
  rw [show n - n0 + 1 = n + 1 - n0 by omega, show n_s (o_S G) x n - n_s (o_S G) x n0 + N = n_s (o_S G) x (n + 1) - n_s (o_S G) x n0 by omega]
  refine kk p e R s m args below meth c Q hC Y (by omega) (by omega) H1 locs ls hl ?_ hS1
  unfold n_W
  rw [n_push, n_ce_1 hsh, show i (x + n) = (fun _ => 0) from funext hz]
  exact hP1
/-- new char[] -/
theorem nk_newc {v : Int32} (N : Nat) (hd : decode M.2.1 pc = .ok (.newarray .char, 2)) (harr : Cond.arrayClass .char ∈ o_wt) (hv : v = nI N) (hN : N ≤ 100000) (hn : n < n1) (hsh : o_S G (x + n) = (2, N)) (hz : ∀ k, i (x + n) k = 0) (kk : NkC G x n0 n1 M C (pc + 2) lv (.ref (x + n) :: st) (n + 1) i r) : NkC G x n0 n1 M C pc lv (.int v :: st) n i r := fun p e R s m args below meth c Q hC Y h0 h1 H locs ls hl hW hS => by
  obtain ⟨X, hnm, hsz, ⟨hRc, hRs⟩, h422, g, hL⟩ := id Y
  have ht := X.2.2.2.2.2.2.1
  have hsn : n_s (o_S G) x (n + 1) = n_s (o_S G) x n + N := by
    show _ + n_sl (o_S G (x + n)) = _
    rw [hsh]
    rfl
  have m1 := n_s_mono (o_S G) x h0
  have m2 := n_s_mono (o_S G) x (show n + 1 ≤ n1 by omega)
  subst hv
  refine va_newa (atype := .char) (ty := .char) (N' := N) (a0 := (N, .inl (fun _ => 0))) X.1 X.2.1 (ht _ harr) rfl X.2.2.2.2.2.2.2.1 hW (n_D G x n i r) hS (fun q hq => by show x ≤ q; omega) (fun _ => rfl) (nI_pos (by omega)) (nI_clamp (by omega)) (by show N * 2 ≤ _; omega) (by omega) (by omega) hd (fun q cA H1 hK1 hP1 hD1 hS1 => ?_)
  refine w_size (fun hle => ?_)
  have hlt : q < H1.size := by
    have := hP1 n (q, .inl (cA, (N, .inl (fun _ => 0)))) (by rw [List.getElem?_append_right (by rw [n_len]; exact Nat.le_refl _), n_len, Nat.sub_self]; rfl)
    exact this.lt
  have hq : q = x + n := n_fresh hD1 (by omega)
  subst hq
  have hcA : cA = o_kA G 2 := by
    have e1 : s.vm.findClass ("[" ++ FieldType.char.toString) = some cA := (hK1.2 5 (cA, .char) rfl).2
    have e2 : s.vm.findClass ("[" ++ FieldType.char.toString) = some (o_kA G 2) := (X.2.2.2.2.2.2.2.1.2 1 (o_kA G 2, .char) rfl).2
    exact Option.some.inj (e1.symm.trans e2)
  subst hcA
  rw [show n - n0 + 1 = n + 1 - n0 by omega, show n_s (o_S G) x n - n_s (o_S G) x n0 + N = n_s (o_S G) x (n + 1) - n_s (o_S G) x n0 by omega]
  refine kk p e R s m args below meth c Q hC Y (by omega) (by omega) H1 locs ls hl ?_ hS1
  unfold n_W
  rw [n_push, n_ce_2 hsh, show i (x + n) = (fun _ => 0) from funext hz]
  exact hP1
/-- a new array of objects: kind 4 or 5 -/
theorem nk_newq {idx : Nat} {v : Int32} (K : String) (t N : Nat) (hd : decode M.2.1 pc = .ok (.anewarray idx, 3)) (hcl : Cond.classLink M.1.cls idx K ∈ o_wt) (hao : ∀ U : State, o_E G U → va_AO K U) (htt : (o_tys (o_kA G))[t + 2]? = some (o_kA G (t + 3), .object K)) (hv : v = nI N) (hN : N ≤ 100000) (hn : n < n1) (hsh : o_S G (x + n) = (t + 3, N)) (hr : ∀ k, r (x + n) k = none) (kk : NkC G x n0 n1 M C (pc + 3) lv (.ref (x + n) :: st) (n + 1) i r) : NkC G x n0 n1 M C pc lv (.int v :: st) n i r := fun p e R s m args below meth c Q hC Y h0 h1 H locs ls hl hW hS => by
  obtain ⟨X, hnm, hsz, ⟨hRc, hRs⟩, h422, g, hL⟩ := id Y
  have ht := X.2.2.2.2.2.2.1
  have hsn : n_s (o_S G) x (n + 1) = n_s (o_S G) x n + N := by
    show _ + n_sl (o_S G (x + n)) = _
    rw [hsh]
    rfl
  have m1 := n_s_mono (o_S G) x h0
  have m2 := n_s_mono (o_S G) x (show n + 1 ≤ n1 by omega)
  subst hv
  refine va_newq (N' := N) X.1 X.2.1 X.2.2.2.2.2.1 (ht _ hcl) (hao s X.2.2.2.2.2.2.2.2) X.2.2.2.2.2.2.2.1 hW (n_D G x n i r) hS (fun q hq => by show x ≤ q; omega) (nI_pos (by omega)) (nI_clamp (by omega)) (by omega) (by omega) (by omega) hd (fun q cA H1 hK1 hP1 hD1 hS1 => ?_)
  refine w_size (fun hle => ?_)
  have hlt : q < H1.size := by
    have := hP1 n (q, .inl (cA, N, .inr (.inr (.inr (.inr (fun _ => none)))))) (by rw [List.getElem?_append_right (by rw [n_len]; exact Nat.le_refl _), n_len, Nat.sub_self]; rfl)
    exact this.lt
  have hq : q = x + n := n_fresh hD1 (by omega)
  subst hq
  have hcA : cA = o_kA G (t + 3) := by
    obtain ⟨-, -, -, -, -, e1⟩ := (hK1.2 5 (cA, .object K) rfl).2
    obtain ⟨-, -, -, -, -, e2⟩ := (X.2.2.2.2.2.2.2.1.2 (t + 2) (o_kA G (t + 3), .object K) htt).2
    exact Option.some.inj (e1.symm.trans e2)
  subst hcA
  rw [show n - n0 + 1 = n + 1 - n0 by omega, show n_s (o_S G) x n - n_s (o_S G) x n0 + N = n_s (o_S G) x (n + 1) - n_s (o_S G) x n0 by omega]
  refine kk p e R s m args below meth c Q hC Y (by omega) (by omega) H1 locs ls hl ?_ hS1
  unfold n_W
  rw [n_push, n_ce_r t hsh, show r (x + n) = (fun _ => none) from funext hr]
  exact hP1
/-- putfield -/
theorem nk_put {idx a : Nat} {v : Value} (ci k : Nat) (ty : FieldType) (j : o_I) (q : n_R) (hd : decode M.2.1 pc = .ok (.putfield idx, 3)) (hf : o_fl M.1.cls idx ci k) (hfin : ((o_C ci).2.1 k).2.2.2 = false ∨ (((o_C ci).2.1 k).2.2.2 = true ∧ M.1.name = "<init>" ∧ ((o_C ci).2.1 k).1 = M.1.cls)) (hty : parseFieldDescriptor ((o_C ci).2.1 k).2.2.1 = some ty) (hnr : narrow ty v = v) (hfit : fits ty v = true) (hx : x ≤ a) (ha : a < x + n) (hsh : o_S G a = (0, ci)) (hv : n_v j q a ci k = v) (ho : ∀ m, m ≠ k → j a m = i a m ∧ q a m = r a m) (hb : ∀ b, b ≠ a → j b = i b ∧ q b = r b) (kk : NkC G x n0 n1 M C (pc + 3) lv st n j q) : NkC G x n0 n1 M C pc lv (v :: .ref a :: st) n i r := fun p e R s m args below meth c Q hC Y h0 h1 H locs ls hl hW hS => by
  obtain ⟨X, hnm, -⟩ := id Y
  obtain ⟨hf1, hf2, hc1, hc2, ⟨ty0, hc3⟩, hc4⟩ := hf
  have ht := X.2.2.2.2.2.2.1
  obtain ⟨q0, hq0⟩ := n_at (G := G) (i := i) (r := r) hx ha
  have hq := hq0
  rw [n_ce_O hsh] at hq
  have fin : ∀ (H1 : Heap) (locs1 : List Loc), va_P G.2.1 vwCl ((n_w G x n i r).set q0 (a, .inr (ci, (n_fs i r a ci).set k v))) H1 → va_S (n_A x) s.heap H1 locs1 → W p G.1 e R s m args below meth c H1 locs1 (n - n0) (n_s (o_S G) x n - n_s (o_S G) x n0) Q (F0 m (pc + 3) ls st) := fun H1 locs1 hP1 hS1 => by
    rw [n_set (j := j) (q := q) hx ha hq0 (by rw [n_ce_O hsh, n_fs_set (j := j) (q := q) hv (fun m hm => by unfold n_v; rw [(ho m hm).1, (ho m hm).2])]) hb] at hP1
    exact kk p e R s m args below meth c Q hC Y h0 h1 H1 locs1 ls hl hP1 hS1
  rcases hfin with hfin | ⟨hfin, hin, hdc⟩
  · exact va_put X.1 X.2.1 ht hc2 ty0 hc3 hc4 X.2.2.2.2.2.1 X.2.2.2.2.2.2.2.1 hW (n_D G x n i r) hS q0 hq hc1 k hf2 (ht _ hf1) (fun _ h => h) hfin hty hnr hfit (by rw [n_fs_len]; exact hf2) hd (fun H1 locs1 hP1 _ hS1 => fin H1 locs1 hP1 hS1)
  · exact va_putF X.1 X.2.1 ht hc2 ty0 hc3 hc4 X.2.2.2.2.2.1 X.2.2.2.2.2.2.2.1 hW (n_D G x n i r) hS q0 hq hc1 k hf2 (ht _ hf1) (fun _ h => h) hfin (hnm.trans hin) hdc hty hnr hfit (by rw [n_fs_len]; exact hf2) hd (fun H1 locs1 hP1 _ hS1 => fin H1 locs1 hP1 hS1)
theorem nk_puti {idx a : Nat} {v : Int32} (ci k : Nat) (ty : FieldType) (hd : decode M.2.1 pc = .ok (.putfield idx, 3)) (hf : o_fl M.1.cls idx ci k) (hrf : o_rf ci k = false) (hfin : ((o_C ci).2.1 k).2.2.2 = false ∨ (((o_C ci).2.1 k).2.2.2 = true ∧ M.1.name = "<init>" ∧ ((o_C ci).2.1 k).1 = M.1.cls)) (hty : parseFieldDescriptor ((o_C ci).2.1 k).2.2.1 = some ty) (hnr : narrow ty (.int v) = .int v) (hfit : fits ty (.int v) = true) (hx : x ≤ a) (ha : a < x + n) (hsh : o_S G a = (0, ci)) (kk : NkC G x n0 n1 M C (pc + 3) lv st n (o_up i a k v) r) : NkC G x n0 n1 M C pc lv (.int v :: .ref a :: st) n i r :=
  nk_put ci k ty (o_up i a k v) r hd hf hfin hty hnr hfit hx ha hsh (by unfold n_v; rw [hrf, o_up_s]; rfl) (fun m hm => ⟨o_up_k hm, rfl⟩) (fun b hb => ⟨o_up_row hb, rfl⟩) kk
theorem nk_putr {idx a y : Nat} (ci k : Nat) (ty : FieldType) (hd : decode M.2.1 pc = .ok (.putfield idx, 3)) (hf : o_fl M.1.cls idx ci k) (hrf : o_rf ci k = true) (hfin : ((o_C ci).2.1 k).2.2.2 = false ∨ (((o_C ci).2.1 k).2.2.2 = true ∧ M.1.name = "<init>" ∧ ((o_C ci).2.1 k).1 = M.1.cls)) (hty : parseFieldDescriptor ((o_C ci).2.1 k).2.2.1 = some ty) (hnr : narrow ty (.ref y) = .ref y) (hfit : fits ty (.ref y) = true) (hx : x ≤ a) (ha : a < x + n) (hsh : o_S G a = (0, ci)) (kk : NkC G x n0 n1 M C (pc + 3) lv st n i (n_up r a k (some y))) : NkC G x n0 n1 M C pc lv (.ref y :: .ref a :: st) n i r :=
  nk_put ci k ty i (n_up r a k (some y)) hd hf hfin hty hnr hfit hx ha hsh (by unfold n_v; rw [hrf, n_up_s]; rfl) (fun m hm => ⟨rfl, n_up_k hm⟩) (fun b hb => ⟨rfl, funext fun _ => n_up_a hb⟩) kk
theorem nk_getr {idx a y : Nat} (ci k : Nat) (hd : decode M.2.1 pc = .ok (.getfield idx, 3)) (hf : o_fl M.1.cls idx ci k) (hrf : o_rf ci k = true) (hx : x ≤ a) (ha : a < x + n) (hsh : o_S G a = (0, ci)) (hr : r a k = some y) (kk : NkC G x n0 n1 M C (pc + 3) lv (.ref y :: st) n i r) : NkC G x n0 n1 M C pc lv (.ref a :: st) n i r := fun p e R s m args below meth c Q hC Y h0 h1 H locs ls hl hW hS => by
  obtain ⟨X, hnm, -⟩ := id Y
  obtain ⟨hf1, hf2, hc1, hc2, -⟩ := hf
  obtain ⟨q0, hq⟩ := n_at (G := G) (i := i) (r := r) hx ha
  rw [n_ce_O hsh] at hq
  exact va_get X.1 X.2.1 X.2.2.2.2.2.2.1 hc2 X.2.2.2.2.2.1 X.2.2.2.2.2.2.2.1 hW q0 hq hc1 k hf2 (X.2.2.2.2.2.2.1 _ hf1) (fun _ h => h) (by rw [n_fs_get hf2]; unfold n_v; rw [hrf, hr]; rfl) hd (kk p e R s m args below meth c Q hC Y h0 h1 H locs ls hl hW hS)
/-- aastore of an object -/
theorem nk_aast {a y : Nat} {v : Int32} (t ci N : Nat) (hd : decode M.2.1 pc = .ok (.aastore, 1)) (htt : (o_tys (o_kA G))[t + 2]? = some (o_kA G (t + 3), .object (o_C ci).1)) (hcl : vwCl[ci]? = some (o_C ci)) (hx : x ≤ a) (ha : a < x + n) (hsh : o_S G a = (t + 3, N)) (hy : x ≤ y) (hy2 : y < x + n) (hsy : o_S G y = (0, ci)) (hv : vp_in v N) (kk : NkC G x n0 n1 M C (pc + 1) lv st n i (n_up r a v.toNatClampNeg (some y))) : NkC G x n0 n1 M C pc lv (.ref y :: .int v :: .ref a :: st) n i r := fun p e R s m args below meth c Q hC Y h0 h1 H locs ls hl hW hS => by
  obtain ⟨X, hnm, -⟩ := id Y
  obtain ⟨q0, hq0⟩ := n_at (G := G) (i := i) (r := r) hx ha
  have hq := hq0
  rw [n_ce_r t hsh] at hq
  obtain ⟨q1, hq1⟩ := n_at (G := G) (i := i) (r := r) hy hy2
  rw [n_ce_O hsy] at hq1
  refine va_astq X.1 X.2.1 X.2.2.2.2.2.2.2.1 hW (n_D G x n i r) hS q0 (t + 2) q1 ci hq htt hq1 hcl hv hd (fun H1 locs1 hP1 _ hS1 => ?_)
  rw [n_set (j := i) (q := n_up r a v.toNatClampNeg (some y)) hx ha hq0 (by
    rw [n_ce_r t hsh]
    congr 1
    have : n_up r a v.toNatClampNeg (some y) a = va_up (r a) v.toNatClampNeg (some y) := by
      funext k
      by_cases hk : k = v.toNatClampNeg
      · subst hk
        rw [n_up_s, va_up_self]
      · rw [n_up_k hk, va_up_ne _ _ hk]
    rw [this]) (fun b hb => ⟨rfl, funext fun _ => n_up_a hb⟩)] at hP1
  exact kk p e R s m args below meth c Q hC Y h0 h1 H1 locs1 ls hl hP1 hS1
theorem nk_gets {idx : Nat} {v : Value} (K nm dd : String) (hd : decode M.2.1 pc = .ok (.getstatic idx, 3)) (hz : ∀ U : State, o_E G U → va_Z K nm dd v (n_A x) U U.heap) (hw : Cond.fieldLink M.1.cls idx K nm dd ∈ o_wt) (kk : NkC G x n0 n1 M C (pc + 3) lv (v :: st) n i r) : NkC G x n0 n1 M C pc lv st n i r := fun p e R s m args below meth c Q hC Y h0 h1 H locs ls hl hW hS => va_gets Y.1.1 Y.1.2.1 (hz s Y.1.2.2.2.2.2.2.2.2) hS Y.1.2.2.2.2.2.1 (Y.1.2.2.2.2.2.2.1 _ hw) (fun _ h => h) hd (kk p e R s m args below meth c Q hC Y h0 h1 H locs ls hl hW hS)
theorem nk_tlen {ty : FieldType} {t N : Nat} {f : Nat → Value} (hd : decode M.2.1 pc = .ok (.arraylength, 1)) (hz : ∀ U : State, o_E G U → va_T ty t N f (n_A x) U U.heap) (kk : NkC G x n0 n1 M C (pc + 1) lv (.int (nI N) :: st) n i r) : NkC G x n0 n1 M C pc lv (.ref t :: st) n i r := fun p e R s m args below meth c Q hC Y h0 h1 H locs ls hl hW hS => va_tlen Y.1.1 Y.1.2.1 (hz s Y.1.2.2.2.2.2.2.2.2) hS rfl hd (kk p e R s m args below meth c Q hC Y h0 h1 H locs ls hl hW hS)
/-- room for a call of depth d -/
def n_room (C : n_Cx) (d : Nat) : Prop := ∀ R s args below Q, C R s args below Q → d + 1 ≤ R.frames ∧ 34 * (d + 1) ≤ R.locals
theorem n_rc {d : Nat} {P : n_P} : n_room (n_c G x (d + 1) n0 n1 P) d := by
  rintro R s args below Q ⟨rfl, -⟩
  exact ⟨Nat.le_refl _, Nat.le_refl _⟩
theorem nk_obj {d idx a : Nat} (hR : n_room C d) (hd : decode M.2.1 pc = .ok (.invokespecial idx, 3)) (h1 : Cond.methodLink M.1.cls idx Lib.objectInit ∈ o_wt) (h2 : Cond.instanceMethod Lib.objectInit ∈ o_wt) (h3 : Cond.code Lib.objectInit ⟨#[0xb1]⟩ 1 none ∈ o_wt) (hs : (st.map fun v => v.category).sum ≤ 8) (kk : NkC G x n0 n1 M C (pc + 3) lv st n i r) : NkC G x n0 n1 M C pc lv (.ref a :: st) n i r := fun p e R s m args below meth c Q hC Y h0 h1' H locs ls hl hW hS => by
  obtain ⟨X, hnm, -⟩ := id Y
  have ht := X.2.2.2.2.2.2.1
  obtain ⟨q1, q2⟩ := hR _ _ _ _ _ hC
  refine W.objInit X.1 X.2.1 X.2.2.2.2.2.1 (ht _ h1) (ht _ h2) (ht _ h3) rfl (by rw [X.2.2.1]; exact hl.1) rfl hd (by omega) (by show 2 * 0 + _ + 12 ≤ _; omega) ?_
  exact kk p e R s m args below meth c Q hC Y h0 h1' H locs ls hl hW hS
/-- what a call of a constructor needs of the tables -/
def n_cI (G : o_G) (own : String) (idx : Nat) (N : o_M) (k : Nat) : Prop := o_cd N ∈ o_wt ∧ Cond.initialized N.1.cls ∈ o_wt ∧ Cond.instanceMethod N.1 ∈ o_wt ∧ N.1.name = "<init>" ∧ N.2.2.1 ≤ 15 ∧ N.2.2.2 = none ∧ (N.1.cls ≠ "java/lang/invoke/MethodHandle" ∧ N.1.cls ≠ "java/lang/invoke/VarHandle" ∧ (parseMethodDescriptor N.1.desc).map (fun d => d.parameters.length) = some k) ∧ (Cond.methodLink own idx N.1 ∈ o_wt ∨ ∃ host, ∀ U : State, o_E G U → va_Nw (.methodLinkNest own idx N.1 host) U)
theorem n_fb {as : List Value} {m0 : Nat} : o_g G → FrameBlind (n_Pc G x m0 as i r) := fun g a U fr mk q => ⟨q.1, q.2.1, q.2.2.1, va_K.moved (u := U) (U := U.calling fr mk a) (Vm.Alike.refl U.vm) q.2.2.2.1, g.2 U (U.calling fr mk a) q.2.2.2.2 (State.WarmedH.refl U) (Nat.le_refl _) (fun _ _ _ => rfl)⟩
theorem nk_init {d idx b m1 : Nat} {N : o_M} {k : Nat} {P1 : n_P} {st0 rest : List Value} (hR : n_room C d) (as : List Value) (hd : decode M.2.1 pc = .ok (.invokespecial idx, 3)) (hc : n_cI G M.1.cls idx N k) (hk : as.length = k) (hst : st0 = as.reverse ++ .ref b :: rest) (hs : (rest.map fun v => v.category).sum ≤ 8) (hm : n ≤ m1) (hm1 : m1 ≤ n1) (h : NSp G x d n m1 N (.ref b :: as) P1 i r) (kk : ∀ j q, P1 j q → NkC G x n0 n1 M C (pc + 3) lv rest m1 j q) : NkC G x n0 n1 M C pc lv st0 n i r := fun p e R s m args below meth c Q hC Y h0 h1 H locs ls hl hW hS => by
  obtain ⟨X, hnm, hsz, ⟨hRc, hRs⟩, h422, g, hL⟩ := id Y
  obtain ⟨c1, c3, c4, c5, c6, c7, c8, c9⟩ := hc
  have ht := X.2.2.2.2.2.2.1
  obtain ⟨q1, q2⟩ := hR _ _ _ _ _ hC
  have s1 := n_s_mono (o_S G) x h0
  have s2 := n_s_mono (o_S G) x hm
  have s3 := n_s_mono (o_S G) x hm1
  refine w_size (fun hle => ?_)
  have hsz2 : H.size = x + n := by
    have a1 := hS.1
    rcases (show n = n0 ∨ n0 < n by omega) with e1 | e1
    · omega
    · obtain ⟨z, hz⟩ := n_at (G := G) (i := i) (r := r) (show x ≤ x + n - 1 by omega) (show x + n - 1 < x + n by omega)
      have : x + n - 1 < H.size := (hW z _ hz).lt
      omega
  have hM := h g hL (by omega)
  have hf : n - n0 + (m1 - n) ≤ R.cells ∧ n_s (o_S G) x n - n_s (o_S G) x n0 + (n_s (o_S G) x m1 - n_s (o_S G) x n) ≤ R.slots := ⟨by omega, by omega⟩
  have hp : PreS s H (n_Pc G x n (.ref b :: as) i r) (.ref b :: as) := ⟨n_fb g, fun U hU hw => ⟨rfl, by rw [hU]; exact hsz2, by rw [hU]; exact hW, va_K.moved hw.alike X.2.2.2.2.2.2.2.1, g.2 s U X.2.2.2.2.2.2.2.2 hw (by rw [hU]; exact hS.1) (fun a h1 h2 => by
    rw [hU]
    refine hS.2.1 a h1 (fun hx => h2 ?_)
    rw [hL]
    have hx : x ≤ a := hx
    exact n_in hx (by omega))⟩⟩
  have run : va_Run p G.1 e R s m args below meth c H locs (n - n0) (n_s (o_S G) x n - n_s (o_S G) x n0) (m1 - n) (n_s (o_S G) x m1 - n_s (o_S G) x n) (F0 m pc ls st0) rest (n_Q G x m1 P1 (.ref b :: as : List Value).toArray) (n_A x) := by
    rcases c9 with c9 | ⟨host, c9⟩
    · exact va_runI (As := as) (rest := rest) (n := k) (own := M.1.cls) (index := idx) (bytes := N.2.1) (maxL := N.2.2.1) ⟨X.1, X.2.1, X.2.2.1, X.2.2.2.2.2.1, ht⟩ hM (cwI k ht (o_good c1) (by unfold o_ws o_cd; rw [c7]) rfl rfl (ht _ c3) (ht _ c9) (ht _ c4) c5 c8 ⟨by show d + 1 ≤ _; omega, by show 8 + (N.2.2.1 + 11) + 34 * d ≤ _; omega⟩) hp rfl hk hl.1 hst (lv_room hs) hd hf
    · exact va_runIN (As := as) (rest := rest) (n := k) (own := M.1.cls) (host := host) (index := idx) (bytes := N.2.1) (maxL := N.2.2.1) ⟨X.1, X.2.1, X.2.2.1, X.2.2.2.2.2.1, ht⟩ hM ⟨va_cnB k ht (o_good c1) (by unfold o_ws o_cd; rw [c7]) rfl rfl (c9 s X.2.2.2.2.2.2.2.2) (ht _ c3) c8 ⟨by show d + 1 ≤ _; omega, by show 8 + (N.2.2.1 + 11) + 34 * d ≤ _; omega⟩, c5, ht _ c4⟩ hp rfl hk hl.1 hst (lv_room hs) hd hf
  intro T hT Z
  obtain ⟨v, st₀, t, T', L, z0, Z', hL2, e1, e2, ⟨⟨i1, r1, hv, hp1, hb⟩, hz, hk2⟩, stp⟩ := run T hT Z
  cases hv
  rw [z0] at hz hk2
  rw [show n - n0 + (m1 - n) = m1 - n0 by omega, show n_s (o_S G) x n - n_s (o_S G) x n0 + (n_s (o_S G) x m1 - n_s (o_S G) x n) = n_s (o_S G) x m1 - n_s (o_S G) x n0 by omega] at Z'
  obtain ⟨t2, a1, b1⟩ := kk i1 r1 hp1 p e R s m args below meth c Q hC Y (by omega) hm1 T'.heap (locs ++ L) ls hl (by rw [e1]; exact hb) ⟨Nat.le_trans hS.1 (by rw [e1]; exact hz), fun q h1 h2 => by rw [e1, hk2 q (Nat.lt_of_lt_of_le h1 hS.1) h2]; exact hS.2.1 q h1 h2, fun q hq => by
      rcases List.mem_append.mp hq with h | h
      · exact hS.2.2 q h
      · exact hL2 q h⟩ T' rfl Z'
  exact ⟨t2, stp t2 a1, b1⟩
theorem nk_vret {d : Nat} {P : n_P} (hd : decode M.2.1 pc = .ok (.return_, 1)) (hr : M.2.2.2 = none) (hn : n = n1) (h : P i r) : NkC G x n0 n1 M (n_c G x d n0 n1 P) pc lv [] n i r := fun p e R s m args below meth c Q hC Y h0 h1 H locs ls hl hW hS => by
  obtain ⟨rfl, rfl⟩ := hC
  subst hn
  obtain ⟨X, -⟩ := id Y
  exact W.vret (hlocks := X.2.2.2.2.1) X.1 X.2.1 (X.2.2.2.1.trans hr) (fun t ht hw => ⟨⟨i, r, rfl, h, by rw [ht]; exact hW⟩, hS.F ht⟩) hS.2.2 hd
end NK

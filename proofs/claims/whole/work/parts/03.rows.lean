/-! A ROW AN INSTRUCTION, over the layer. -/
theorem o_ce_cg {kA : Nat → ClassId} {S : Nat → Nat × Nat} {i j : o_I} {r q : o_R} {b : Nat} (h : j b = i b) (h2 : q b = r b) : o_ce kA S j q b = o_ce kA S i r b := by
  have e : ∀ ci, o_fs j q b ci = o_fs i r b ci := by
    intro ci
    unfold o_fs
    congr 1
    funext k
    simp [o_v, h, h2]
  unfold o_ce
  rw [e, h, h2]
theorem o_up_row {i : o_I} {a k b : Nat} {x : Int32} (h : b ≠ a) : o_up i a k x b = i b := funext fun _ => o_up_a h
theorem o_upr_row {r : o_R} {a k b x : Nat} (h : b ≠ a) : o_upr r a k x b = r b := funext fun _ => o_upr_a h
theorem o_up_self {i : o_I} {a k : Nat} {x : Int32} : o_up i a k x a = upd (i a) k x := by
  funext j
  simp [o_up, upd]
theorem o_fs_get {i : o_I} {r : o_R} {a ci k : Nat} (h : k < (o_C ci).2.2) : (o_fs i r a ci)[k]? = some (o_v i r a ci k) := by
  unfold o_fs
  rw [List.getElem?_map, List.getElem?_range h]
  rfl
theorem o_fs_len {i : o_I} {r : o_R} {a ci : Nat} : (o_fs i r a ci).length = (o_C ci).2.2 := by
  unfold o_fs
  rw [List.length_map, List.length_range]
theorem o_fs_set {i j : o_I} {r q : o_R} {a ci k : Nat} {v : Value} (hk : o_v j q a ci k = v) (h : ∀ n, n ≠ k → o_v j q a ci n = o_v i r a ci n) : (o_fs i r a ci).set k v = o_fs j q a ci := by
  apply List.ext_getElem?
  intro n
  by_cases hn : n < (o_C ci).2.2
  · by_cases e : n = k
    · subst e
      rw [List.getElem?_set_self (by rw [o_fs_len]; exact hn), o_fs_get hn, hk]
    · rw [List.getElem?_set_ne (Ne.symm e), o_fs_get hn, o_fs_get hn, h n e]
  · rw [List.getElem?_eq_none (by rw [List.length_set, o_fs_len]; omega), List.getElem?_eq_none (by rw [o_fs_len]; omega)]
theorem o_ce_O {kA : Nat → ClassId} {S : Nat → Nat × Nat} {i : o_I} {r : o_R} {a ci : Nat} (h : S a = (0, ci)) : o_ce kA S i r a = .inr (ci, o_fs i r a ci) := by
  unfold o_ce
  rw [h]
theorem o_ce_1 {kA : Nat → ClassId} {S : Nat → Nat × Nat} {i : o_I} {r : o_R} {a : Nat} (h : (S a).1 = 1) : o_ce kA S i r a = .inl (kA 1, (S a).2, .inl (i a)) := by
  unfold o_ce
  rw [h]
theorem o_ce_2 {kA : Nat → ClassId} {S : Nat → Nat × Nat} {i : o_I} {r : o_R} {a : Nat} (h : (S a).1 = 2) : o_ce kA S i r a = .inl (kA 2, (S a).2, .inl (i a)) := by
  unfold o_ce
  rw [h]
theorem o_ce_r {kA : Nat → ClassId} {S : Nat → Nat × Nat} {i : o_I} {r : o_R} {a : Nat} (k : Nat) (h : (S a).1 = k + 3) : o_ce kA S i r a = .inl (kA (k + 3), (S a).2, .inr (.inr (.inr (.inr (fun j => some (r a j)))))) := by
  unfold o_ce
  rw [h]
theorem o_D {G : o_G} (g : o_g G) (i : o_I) (r : o_R) : va_D (o_A G) (o_w G i r) := by
  have key : ∀ (n : Nat) (p : Nat × va_E), (o_w G i r)[n]? = some p → (o_L G)[n]? = some p.1 := by
    intro n p hp
    unfold o_w va_pl at hp
    rw [List.getElem?_map] at hp
    cases hb : (o_L G)[n]? with
    | none => rw [hb] at hp; cases hp
    | some b => rw [hb] at hp; cases hp; rfl
  refine ⟨fun n j p q hp hq e => ?_, fun n q hq => List.mem_of_getElem? (key n q hq)⟩
  have h1 := key n p hp
  have h2 := key j q hq
  exact (List.getElem?_inj (List.getElem?_eq_some_iff.mp h1).1 g.1).mp (by rw [h1, h2, e])
theorem o_at {G : o_G} {i : o_I} {r : o_R} {a : Nat} (h : a ∈ o_L G) : ∃ k : Nat, (o_w G i r)[k]? = some (a, o_ce (o_kA G) (o_S G) i r a) := va_pl_get (X := []) h
theorem o_set {G : o_G} (g : o_g G) {i j : o_I} {r q : o_R} {a n : Nat} {e : va_E} (h : a ∈ o_L G) (hk : (o_w G i r)[n]? = some (a, o_ce (o_kA G) (o_S G) i r a)) (he : o_ce (o_kA G) (o_S G) j q a = e) (ho : ∀ b, b ≠ a → j b = i b ∧ q b = r b) : (o_w G i r).set n (a, e) = o_w G j q := by
  have h1 : (o_w G i r).set n (a, e) = va_pl (o_L G) (va_up (o_ce (o_kA G) (o_S G) i r) a e) := va_pl_set (X := []) (o_D g i r) h hk
  rw [h1]
  refine va_pl_congr (fun b => ?_)
  by_cases hb : b = a
  · subst hb
    rw [va_up_self, he]
  · rw [va_up_ne _ _ hb]
    exact (o_ce_cg (ho b hb).1 (ho b hb).2).symm
def o_sub : List (Option Value) → List (Option Value) → Prop
  | [], _ => True
  | none :: l', _ :: l => o_sub l' l
  | some v :: l', u :: l => u = some v ∧ o_sub l' l
  | _ :: _, [] => False
theorem o_sub_get : ∀ {l' l : List (Option Value)}, o_sub l' l → ∀ (k : Nat) (v : Value), l'[k]? = some (some v) → l[k]? = some (some v)
  | [], _, _, k, v, h => by simp at h
  | none :: l', u :: l, hs, 0, v, h => by simp at h
  | none :: l', u :: l, hs, k + 1, v, h => by
    simp only [List.getElem?_cons_succ] at h ⊢
    exact o_sub_get (l' := l') (l := l) hs k v h
  | some w :: l', u :: l, hs, 0, v, h => by
    simp only [List.getElem?_cons_zero, Option.some.injEq] at h ⊢
    rw [hs.1, h]
  | some w :: l', u :: l, hs, k + 1, v, h => by
    simp only [List.getElem?_cons_succ] at h ⊢
    exact o_sub_get (l' := l') (l := l) hs.2 k v h
  | none :: l', [], hs, k, v, h => hs.elim
  | some w :: l', [], hs, k, v, h => hs.elim
theorem o_bool {x : Int32} (h : x = 0 ∨ x = 1) : narrow .boolean (.int x) = .int x ∧ fits .boolean (.int x) = true := by
  rcases h with rfl | rfl
  · exact ⟨rfl, rfl⟩
  · exact ⟨rfl, rfl⟩
section OK
variable {G : o_G} {M : o_M} {C : o_Cx} {pc : Nat} {lv : List (Option Value)} {st : List Value} {i : o_I} {r : o_R}
theorem ok_wk0 {lv' : List (Option Value)} (hw : ∀ (k : Nat) (v : Value), lv'[k]? = some (some v) → lv[k]? = some (some v)) (kk : OkC G M C pc lv' st i r) : OkC G M C pc lv st i r := fun g p e R s m args below meth c cells slots Q hC X H locs ls hl hW hS => kk g p e R s m args below meth c cells slots Q hC X H locs ls (hl.wk hw) hW hS
theorem ok_wk (lv' : List (Option Value)) (hw : o_sub lv' lv) (kk : OkC G M C pc lv' st i r) : OkC G M C pc lv st i r := ok_wk0 (o_sub_get hw) kk
theorem ok_nmi (kk : ∀ j : o_I, j = i → OkC G M C pc lv st j r) : OkC G M C pc lv st i r := kk i rfl
theorem ok_nmr (kk : ∀ j : o_R, j = r → OkC G M C pc lv st i j) : OkC G M C pc lv st i r := kk r rfl
theorem ok_iconst {n : Int} (v : Int32) (hd : decode M.2.1 pc = .ok (.iconst n, 1)) (hv : Int32.ofInt n = v) (kk : OkC G M C (pc + 1) lv (.int v :: st) i r) : OkC G M C pc lv st i r := fun g p e R s m args below meth c cells slots Q hC X H locs ls hl hW hS => lv_iconst X.1 X.2.1 hd hv (kk g p e R s m args below meth c cells slots Q hC X H locs ls hl hW hS)
theorem ok_bipush {n : Int} (v : Int32) (hd : decode M.2.1 pc = .ok (.bipush n, 2)) (hv : (Int8.ofInt n).toInt32 = v) (kk : OkC G M C (pc + 2) lv (.int v :: st) i r) : OkC G M C pc lv st i r := fun g p e R s m args below meth c cells slots Q hC X H locs ls hl hW hS => lv_bipush X.1 X.2.1 hd hv (kk g p e R s m args below meth c cells slots Q hC X H locs ls hl hW hS)
theorem ok_sipush {n : Int} (v : Int32) (hd : decode M.2.1 pc = .ok (.sipush n, 3)) (hv : (Int16.ofInt n).toInt32 = v) (kk : OkC G M C (pc + 3) lv (.int v :: st) i r) : OkC G M C pc lv st i r := fun g p e R s m args below meth c cells slots Q hC X H locs ls hl hW hS => lv_sipush X.1 X.2.1 hd hv (kk g p e R s m args below meth c cells slots Q hC X H locs ls hl hW hS)
theorem ok_iload_n {k : Fin 4} (j : Nat) {x : Int32} (hd : decode M.2.1 pc = .ok (.iload_n k, 1)) (hj : (k : Nat) = j) (hx : lv[j]? = some (some (.int x))) (kk : OkC G M C (pc + 1) lv (.int x :: st) i r) : OkC G M C pc lv st i r := fun g p e R s m args below meth c cells slots Q hC X H locs ls hl hW hS => lv_iload_n X.1 X.2.1 hd hj (hl.2.2 j _ hx).2 (kk g p e R s m args below meth c cells slots Q hC X H locs ls hl hW hS)
theorem ok_iload {j : Nat} {x : Int32} (hd : decode M.2.1 pc = .ok (.iload j, 2)) (hx : lv[j]? = some (some (.int x))) (kk : OkC G M C (pc + 2) lv (.int x :: st) i r) : OkC G M C pc lv st i r := fun g p e R s m args below meth c cells slots Q hC X H locs ls hl hW hS => lv_iload X.1 X.2.1 hd (hl.2.2 j _ hx).2 (kk g p e R s m args below meth c cells slots Q hC X H locs ls hl hW hS)
theorem ok_aload_n {k : Fin 4} (j : Nat) {x : Nat} (hd : decode M.2.1 pc = .ok (.aload_n k, 1)) (hj : (k : Nat) = j) (hx : lv[j]? = some (some (.ref x))) (kk : OkC G M C (pc + 1) lv (.ref x :: st) i r) : OkC G M C pc lv st i r := fun g p e R s m args below meth c cells slots Q hC X H locs ls hl hW hS => lv_aload_n X.1 X.2.1 hd hj (hl.2.2 j _ hx).2 (kk g p e R s m args below meth c cells slots Q hC X H locs ls hl hW hS)
theorem ok_aload {j : Nat} {x : Nat} (hd : decode M.2.1 pc = .ok (.aload j, 2)) (hx : lv[j]? = some (some (.ref x))) (kk : OkC G M C (pc + 2) lv (.ref x :: st) i r) : OkC G M C pc lv st i r := fun g p e R s m args below meth c cells slots Q hC X H locs ls hl hW hS => lv_aload X.1 X.2.1 hd (hl.2.2 j _ hx).2 (kk g p e R s m args below meth c cells slots Q hC X H locs ls hl hW hS)
theorem ok_istore_n {k : Fin 4} (j : Nat) {x : Int32} (hd : decode M.2.1 pc = .ok (.istore_n k, 1)) (hj : (k : Nat) = j) (hn : j < M.2.2.1) (lv' : List (Option Value)) (hs : lv.set j (some (.int x)) = lv') (kk : OkC G M C (pc + 1) lv' st i r) : OkC G M C pc lv (.int x :: st) i r := fun g p e R s m args below meth c cells slots Q hC X H locs ls hl hW hS => lv_istore_n X.1 X.2.1 hd hj hl.has hn rfl (fun ls' h' => kk g p e R s m args below meth c cells slots Q hC X H locs ls' (hs ▸ o_lc.st rfl hl h') hW hS)
theorem ok_istore {j : Nat} {x : Int32} (hd : decode M.2.1 pc = .ok (.istore j, 2)) (hn : j < M.2.2.1) (lv' : List (Option Value)) (hs : lv.set j (some (.int x)) = lv') (kk : OkC G M C (pc + 2) lv' st i r) : OkC G M C pc lv (.int x :: st) i r := fun g p e R s m args below meth c cells slots Q hC X H locs ls hl hW hS => lv_istore X.1 X.2.1 hd hl.has hn rfl (fun ls' h' => kk g p e R s m args below meth c cells slots Q hC X H locs ls' (hs ▸ o_lc.st rfl hl h') hW hS)
theorem ok_astore_n {k : Fin 4} (j : Nat) {x : Nat} (hd : decode M.2.1 pc = .ok (.astore_n k, 1)) (hj : (k : Nat) = j) (hn : j < M.2.2.1) (lv' : List (Option Value)) (hs : lv.set j (some (.ref x)) = lv') (kk : OkC G M C (pc + 1) lv' st i r) : OkC G M C pc lv (.ref x :: st) i r := fun g p e R s m args below meth c cells slots Q hC X H locs ls hl hW hS => lv_astore_n X.1 X.2.1 hd hj hl.has hn rfl (fun ls' h' => kk g p e R s m args below meth c cells slots Q hC X H locs ls' (hs ▸ o_lc.st rfl hl h') hW hS)
theorem ok_astore {j : Nat} {x : Nat} (hd : decode M.2.1 pc = .ok (.astore j, 2)) (hn : j < M.2.2.1) (lv' : List (Option Value)) (hs : lv.set j (some (.ref x)) = lv') (kk : OkC G M C (pc + 2) lv' st i r) : OkC G M C pc lv (.ref x :: st) i r := fun g p e R s m args below meth c cells slots Q hC X H locs ls hl hW hS => lv_astore X.1 X.2.1 hd hl.has hn rfl (fun ls' h' => kk g p e R s m args below meth c cells slots Q hC X H locs ls' (hs ▸ o_lc.st rfl hl h') hW hS)
theorem ok_eqi (x : Int32) (kk : ∀ y : Int32, y = x → OkC G M C pc lv st i r) : OkC G M C pc lv st i r := kk x rfl
theorem ok_iinc {j : Nat} {n : Int} {x : Int32} (k y : Int32) (hd : decode M.2.1 pc = .ok (.iinc j n, 3)) (hx : lv[j]? = some (some (.int x))) (hk : Int32.ofInt n = k) (hy : y = x + k) (hn : j < M.2.2.1) (lv' : List (Option Value)) (hs : lv.set j (some (.int y)) = lv') (kk : OkC G M C (pc + 3) lv' st i r) : OkC G M C pc lv st i r := fun g p e R s m args below meth c cells slots Q hC X H locs ls hl hW hS => by
  obtain ⟨n0, h0⟩ := List.getElem?_of_mem (o_al_mem (lv := lv) (q := (j, .int x)) |>.mpr hx)
  exact lv_iinc X.1 X.2.1 hd hl.has h0 (by rw [hk, hy]) hn rfl (fun ls' h' => kk g p e R s m args below meth c cells slots Q hC X H locs ls' (hs ▸ o_lc.st rfl hl h') hW hS)
theorem ok_iadd {x y : Int32} (hd : decode M.2.1 pc = .ok (.iadd, 1)) (kk : OkC G M C (pc + 1) lv (.int (x + y) :: st) i r) : OkC G M C pc lv (.int y :: .int x :: st) i r := fun g p e R s m args below meth c cells slots Q hC X H locs ls hl hW hS => lv_iadd X.1 X.2.1 hd (kk g p e R s m args below meth c cells slots Q hC X H locs ls hl hW hS)
theorem ok_isub {x y : Int32} (hd : decode M.2.1 pc = .ok (.isub, 1)) (kk : OkC G M C (pc + 1) lv (.int (x - y) :: st) i r) : OkC G M C pc lv (.int y :: .int x :: st) i r := fun g p e R s m args below meth c cells slots Q hC X H locs ls hl hW hS => lv_isub X.1 X.2.1 hd (kk g p e R s m args below meth c cells slots Q hC X H locs ls hl hW hS)
theorem ok_imul {x y : Int32} (hd : decode M.2.1 pc = .ok (.imul, 1)) (kk : OkC G M C (pc + 1) lv (.int (x * y) :: st) i r) : OkC G M C pc lv (.int y :: .int x :: st) i r := fun g p e R s m args below meth c cells slots Q hC X H locs ls hl hW hS => lv_imul X.1 X.2.1 hd (kk g p e R s m args below meth c cells slots Q hC X H locs ls hl hW hS)
theorem ok_iand {x y : Int32} (hd : decode M.2.1 pc = .ok (.iand, 1)) (kk : OkC G M C (pc + 1) lv (.int (x &&& y) :: st) i r) : OkC G M C pc lv (.int y :: .int x :: st) i r := fun g p e R s m args below meth c cells slots Q hC X H locs ls hl hW hS => lv_iand X.1 X.2.1 hd (kk g p e R s m args below meth c cells slots Q hC X H locs ls hl hW hS)
theorem ok_ishr {x y : Int32} (hd : decode M.2.1 pc = .ok (.ishr, 1)) (kk : OkC G M C (pc + 1) lv (.int (x >>> (y &&& 31)) :: st) i r) : OkC G M C pc lv (.int y :: .int x :: st) i r := fun g p e R s m args below meth c cells slots Q hC X H locs ls hl hW hS => lv_ishr X.1 X.2.1 hd (kk g p e R s m args below meth c cells slots Q hC X H locs ls hl hW hS)
theorem ok_iushr {x y : Int32} (hd : decode M.2.1 pc = .ok (.iushr, 1)) (kk : OkC G M C (pc + 1) lv (.int ((x.toUInt32 >>> (y.toUInt32 &&& Int32.toUInt32 31)).toInt32) :: st) i r) : OkC G M C pc lv (.int y :: .int x :: st) i r := fun g p e R s m args below meth c cells slots Q hC X H locs ls hl hW hS => lv_iushr X.1 X.2.1 hd rfl (kk g p e R s m args below meth c cells slots Q hC X H locs ls hl hW hS)
theorem ok_idiv {x y : Int32} (hd : decode M.2.1 pc = .ok (.idiv, 1)) (hy : ¬ y = 0) (kk : OkC G M C (pc + 1) lv (.int (x / y) :: st) i r) : OkC G M C pc lv (.int y :: .int x :: st) i r := fun g p e R s m args below meth c cells slots Q hC X H locs ls hl hW hS => lv_idiv X.1 X.2.1 hd hy (kk g p e R s m args below meth c cells slots Q hC X H locs ls hl hW hS)
theorem ok_irem {x y : Int32} (hd : decode M.2.1 pc = .ok (.irem, 1)) (hy : ¬ y = 0) (kk : OkC G M C (pc + 1) lv (.int (x - x / y * y) :: st) i r) : OkC G M C pc lv (.int y :: .int x :: st) i r := fun g p e R s m args below meth c cells slots Q hC X H locs ls hl hW hS => lv_irem X.1 X.2.1 hd hy (kk g p e R s m args below meth c cells slots Q hC X H locs ls hl hW hS)
theorem ok_i2c {x : Int32} (hd : decode M.2.1 pc = .ok (.i2c, 1)) (kk : OkC G M C (pc + 1) lv (.int ((x.toUInt32 % 65536).toInt32) :: st) i r) : OkC G M C pc lv (.int x :: st) i r := fun g p e R s m args below meth c cells slots Q hC X H locs ls hl hW hS => lv_i2c X.1 X.2.1 hd rfl (kk g p e R s m args below meth c cells slots Q hC X H locs ls hl hW hS)
theorem ok_dup {v : Value} (hd : decode M.2.1 pc = .ok (.dup, 1)) (hv : v.category = 1) (kk : OkC G M C (pc + 1) lv (v :: v :: st) i r) : OkC G M C pc lv (v :: st) i r := fun g p e R s m args below meth c cells slots Q hC X H locs ls hl hW hS => lv_dup X.1 X.2.1 hd hv (kk g p e R s m args below meth c cells slots Q hC X H locs ls hl hW hS)
theorem ok_dup2 {u v : Value} (hd : decode M.2.1 pc = .ok (.dup2, 1)) (hv : v.category = 1) (hu : u.category = 1) (kk : OkC G M C (pc + 1) lv (v :: u :: v :: u :: st) i r) : OkC G M C pc lv (v :: u :: st) i r := fun g p e R s m args below meth c cells slots Q hC X H locs ls hl hW hS => lv_dup2_11 X.1 X.2.1 hd hv hu (kk g p e R s m args below meth c cells slots Q hC X H locs ls hl hW hS)
theorem ok_pop {v : Value} (hd : decode M.2.1 pc = .ok (.pop, 1)) (hv : v.category = 1) (kk : OkC G M C (pc + 1) lv st i r) : OkC G M C pc lv (v :: st) i r := fun g p e R s m args below meth c cells slots Q hC X H locs ls hl hW hS => lv_pop X.1 X.2.1 hd hv (kk g p e R s m args below meth c cells slots Q hC X H locs ls hl hW hS)
theorem ok_null (hd : decode M.2.1 pc = .ok (.aconst_null, 1)) (kk : OkC G M C (pc + 1) lv (.null :: st) i r) : OkC G M C pc lv st i r := fun g p e R s m args below meth c cells slots Q hC X H locs ls hl hW hS => lv_null X.1 X.2.1 hd (kk g p e R s m args below meth c cells slots Q hC X H locs ls hl hW hS)
theorem ok_goto {off : Int} (tgt : Nat) (hd : decode M.2.1 pc = .ok (.goto off, 3)) (ht : (pc : Int) + off = (tgt : Int)) (kk : OkC G M C tgt lv st i r) : OkC G M C pc lv st i r := fun g p e R s m args below meth c cells slots Q hC X H locs ls hl hW hS => lv_goto X.1 X.2.1 hd ht (kk g p e R s m args below meth c cells slots Q hC X H locs ls hl hW hS)
theorem ok_topi {x : Int32} (kk : ∀ y : Int32, y = x → OkC G M C pc lv (.int y :: st) i r) : OkC G M C pc lv (.int x :: st) i r := kk x rfl
theorem ok_if_eq {x : Int32} {off : Int} (tgt : Nat) (hd : decode M.2.1 pc = .ok (.ifCond .eq off, 3)) (ht : (pc : Int) + off = (tgt : Int)) (kt : x = 0 → OkC G M C tgt lv st i r) (kf : ¬ x = 0 → OkC G M C (pc + 3) lv st i r) : OkC G M C pc lv (.int x :: st) i r := fun g p e R s m args below meth c cells slots Q hC X H locs ls hl hW hS => lv_if_eq X.1 X.2.1 hd ht (fun z => kt z g p e R s m args below meth c cells slots Q hC X H locs ls hl hW hS) (fun z => kf z g p e R s m args below meth c cells slots Q hC X H locs ls hl hW hS)
theorem ok_ic_eq {x y : Int32} {off : Int} (tgt : Nat) (hd : decode M.2.1 pc = .ok (.if_icmp .eq off, 3)) (ht : (pc : Int) + off = (tgt : Int)) (kt : x = y → OkC G M C tgt lv st i r) (kf : ¬ x = y → OkC G M C (pc + 3) lv st i r) : OkC G M C pc lv (.int y :: .int x :: st) i r := fun g p e R s m args below meth c cells slots Q hC X H locs ls hl hW hS => lv_icmp_eq X.1 X.2.1 hd ht (fun z => kt z g p e R s m args below meth c cells slots Q hC X H locs ls hl hW hS) (fun z => kf z g p e R s m args below meth c cells slots Q hC X H locs ls hl hW hS)
theorem ok_if_ne {x : Int32} {off : Int} (tgt : Nat) (hd : decode M.2.1 pc = .ok (.ifCond .ne off, 3)) (ht : (pc : Int) + off = (tgt : Int)) (kt : ¬ x = 0 → OkC G M C tgt lv st i r) (kf : x = 0 → OkC G M C (pc + 3) lv st i r) : OkC G M C pc lv (.int x :: st) i r := fun g p e R s m args below meth c cells slots Q hC X H locs ls hl hW hS => lv_if_ne X.1 X.2.1 hd ht (fun z => kt z g p e R s m args below meth c cells slots Q hC X H locs ls hl hW hS) (fun z => kf z g p e R s m args below meth c cells slots Q hC X H locs ls hl hW hS)
theorem ok_ic_ne {x y : Int32} {off : Int} (tgt : Nat) (hd : decode M.2.1 pc = .ok (.if_icmp .ne off, 3)) (ht : (pc : Int) + off = (tgt : Int)) (kt : ¬ x = y → OkC G M C tgt lv st i r) (kf : x = y → OkC G M C (pc + 3) lv st i r) : OkC G M C pc lv (.int y :: .int x :: st) i r := fun g p e R s m args below meth c cells slots Q hC X H locs ls hl hW hS => lv_icmp_ne X.1 X.2.1 hd ht (fun z => kt z g p e R s m args below meth c cells slots Q hC X H locs ls hl hW hS) (fun z => kf z g p e R s m args below meth c cells slots Q hC X H locs ls hl hW hS)
theorem ok_if_lt {x : Int32} {off : Int} (tgt : Nat) (hd : decode M.2.1 pc = .ok (.ifCond .lt off, 3)) (ht : (pc : Int) + off = (tgt : Int)) (kt : x < 0 → OkC G M C tgt lv st i r) (kf : ¬ x < 0 → OkC G M C (pc + 3) lv st i r) : OkC G M C pc lv (.int x :: st) i r := fun g p e R s m args below meth c cells slots Q hC X H locs ls hl hW hS => lv_if_lt X.1 X.2.1 hd ht (fun z => kt z g p e R s m args below meth c cells slots Q hC X H locs ls hl hW hS) (fun z => kf z g p e R s m args below meth c cells slots Q hC X H locs ls hl hW hS)
theorem ok_ic_lt {x y : Int32} {off : Int} (tgt : Nat) (hd : decode M.2.1 pc = .ok (.if_icmp .lt off, 3)) (ht : (pc : Int) + off = (tgt : Int)) (kt : x < y → OkC G M C tgt lv st i r) (kf : ¬ x < y → OkC G M C (pc + 3) lv st i r) : OkC G M C pc lv (.int y :: .int x :: st) i r := fun g p e R s m args below meth c cells slots Q hC X H locs ls hl hW hS => lv_icmp_lt X.1 X.2.1 hd ht (fun z => kt z g p e R s m args below meth c cells slots Q hC X H locs ls hl hW hS) (fun z => kf z g p e R s m args below meth c cells slots Q hC X H locs ls hl hW hS)
theorem ok_if_ge {x : Int32} {off : Int} (tgt : Nat) (hd : decode M.2.1 pc = .ok (.ifCond .ge off, 3)) (ht : (pc : Int) + off = (tgt : Int)) (kt : 0 ≤ x → OkC G M C tgt lv st i r) (kf : ¬ 0 ≤ x → OkC G M C (pc + 3) lv st i r) : OkC G M C pc lv (.int x :: st) i r := fun g p e R s m args below meth c cells slots Q hC X H locs ls hl hW hS => lv_if_ge X.1 X.2.1 hd ht (fun z => kt z g p e R s m args below meth c cells slots Q hC X H locs ls hl hW hS) (fun z => kf z g p e R s m args below meth c cells slots Q hC X H locs ls hl hW hS)
theorem ok_ic_ge {x y : Int32} {off : Int} (tgt : Nat) (hd : decode M.2.1 pc = .ok (.if_icmp .ge off, 3)) (ht : (pc : Int) + off = (tgt : Int)) (kt : y ≤ x → OkC G M C tgt lv st i r) (kf : ¬ y ≤ x → OkC G M C (pc + 3) lv st i r) : OkC G M C pc lv (.int y :: .int x :: st) i r := fun g p e R s m args below meth c cells slots Q hC X H locs ls hl hW hS => lv_icmp_ge X.1 X.2.1 hd ht (fun z => kt z g p e R s m args below meth c cells slots Q hC X H locs ls hl hW hS) (fun z => kf z g p e R s m args below meth c cells slots Q hC X H locs ls hl hW hS)
theorem ok_if_gt {x : Int32} {off : Int} (tgt : Nat) (hd : decode M.2.1 pc = .ok (.ifCond .gt off, 3)) (ht : (pc : Int) + off = (tgt : Int)) (kt : 0 < x → OkC G M C tgt lv st i r) (kf : ¬ 0 < x → OkC G M C (pc + 3) lv st i r) : OkC G M C pc lv (.int x :: st) i r := fun g p e R s m args below meth c cells slots Q hC X H locs ls hl hW hS => lv_if_gt X.1 X.2.1 hd ht (fun z => kt z g p e R s m args below meth c cells slots Q hC X H locs ls hl hW hS) (fun z => kf z g p e R s m args below meth c cells slots Q hC X H locs ls hl hW hS)
theorem ok_ic_gt {x y : Int32} {off : Int} (tgt : Nat) (hd : decode M.2.1 pc = .ok (.if_icmp .gt off, 3)) (ht : (pc : Int) + off = (tgt : Int)) (kt : y < x → OkC G M C tgt lv st i r) (kf : ¬ y < x → OkC G M C (pc + 3) lv st i r) : OkC G M C pc lv (.int y :: .int x :: st) i r := fun g p e R s m args below meth c cells slots Q hC X H locs ls hl hW hS => lv_icmp_gt X.1 X.2.1 hd ht (fun z => kt z g p e R s m args below meth c cells slots Q hC X H locs ls hl hW hS) (fun z => kf z g p e R s m args below meth c cells slots Q hC X H locs ls hl hW hS)
theorem ok_if_le {x : Int32} {off : Int} (tgt : Nat) (hd : decode M.2.1 pc = .ok (.ifCond .le off, 3)) (ht : (pc : Int) + off = (tgt : Int)) (kt : x ≤ 0 → OkC G M C tgt lv st i r) (kf : ¬ x ≤ 0 → OkC G M C (pc + 3) lv st i r) : OkC G M C pc lv (.int x :: st) i r := fun g p e R s m args below meth c cells slots Q hC X H locs ls hl hW hS => lv_if_le X.1 X.2.1 hd ht (fun z => kt z g p e R s m args below meth c cells slots Q hC X H locs ls hl hW hS) (fun z => kf z g p e R s m args below meth c cells slots Q hC X H locs ls hl hW hS)
theorem ok_ic_le {x y : Int32} {off : Int} (tgt : Nat) (hd : decode M.2.1 pc = .ok (.if_icmp .le off, 3)) (ht : (pc : Int) + off = (tgt : Int)) (kt : x ≤ y → OkC G M C tgt lv st i r) (kf : ¬ x ≤ y → OkC G M C (pc + 3) lv st i r) : OkC G M C pc lv (.int y :: .int x :: st) i r := fun g p e R s m args below meth c cells slots Q hC X H locs ls hl hW hS => lv_icmp_le X.1 X.2.1 hd ht (fun z => kt z g p e R s m args below meth c cells slots Q hC X H locs ls hl hW hS) (fun z => kf z g p e R s m args below meth c cells slots Q hC X H locs ls hl hW hS)
theorem ok_aload_nN {k : Fin 4} (j : Nat) (hd : decode M.2.1 pc = .ok (.aload_n k, 1)) (hj : (k : Nat) = j) (hx : lv[j]? = some (some .null)) (kk : OkC G M C (pc + 1) lv (.null :: st) i r) : OkC G M C pc lv st i r := fun g p e R s m args below meth c cells slots Q hC X H locs ls hl hW hS => lv_aload_nN X.1 X.2.1 hd hj (hl.2.2 j _ hx).2 (kk g p e R s m args below meth c cells slots Q hC X H locs ls hl hW hS)
theorem ok_aloadN {j : Nat} (hd : decode M.2.1 pc = .ok (.aload j, 2)) (hx : lv[j]? = some (some .null)) (kk : OkC G M C (pc + 2) lv (.null :: st) i r) : OkC G M C pc lv st i r := fun g p e R s m args below meth c cells slots Q hC X H locs ls hl hW hS => lv_aloadN X.1 X.2.1 hd (hl.2.2 j _ hx).2 (kk g p e R s m args below meth c cells slots Q hC X H locs ls hl hW hS)
theorem ok_astore_nN {k : Fin 4} (j : Nat) (hd : decode M.2.1 pc = .ok (.astore_n k, 1)) (hj : (k : Nat) = j) (hn : j < M.2.2.1) (lv' : List (Option Value)) (hs : lv.set j (some .null) = lv') (kk : OkC G M C (pc + 1) lv' st i r) : OkC G M C pc lv (.null :: st) i r := fun g p e R s m args below meth c cells slots Q hC X H locs ls hl hW hS => lv_astore_nN X.1 X.2.1 hd hj hl.has hn rfl (fun ls' h' => kk g p e R s m args below meth c cells slots Q hC X H locs ls' (hs ▸ o_lc.st rfl hl h') hW hS)
theorem ok_astoreN {j : Nat} (hd : decode M.2.1 pc = .ok (.astore j, 2)) (hn : j < M.2.2.1) (lv' : List (Option Value)) (hs : lv.set j (some .null) = lv') (kk : OkC G M C (pc + 2) lv' st i r) : OkC G M C pc lv (.null :: st) i r := fun g p e R s m args below meth c cells slots Q hC X H locs ls hl hW hS => lv_astoreN X.1 X.2.1 hd hl.has hn rfl (fun ls' h' => kk g p e R s m args below meth c cells slots Q hC X H locs ls' (hs ▸ o_lc.st rfl hl h') hW hS)
theorem ok_ifnonnull {x : Nat} {off : Int} (tgt : Nat) (hd : decode M.2.1 pc = .ok (.ifnonnull off, 3)) (ht : (pc : Int) + off = (tgt : Int)) (kk : OkC G M C tgt lv st i r) : OkC G M C pc lv (.ref x :: st) i r := fun g p e R s m args below meth c cells slots Q hC X H locs ls hl hW hS => lv_ifnonnull X.1 X.2.1 hd ht (kk g p e R s m args below meth c cells slots Q hC X H locs ls hl hW hS)
theorem ok_ifnull {x : Nat} {off : Int} (hd : decode M.2.1 pc = .ok (.ifnull off, 3)) (kk : OkC G M C (pc + 3) lv st i r) : OkC G M C pc lv (.ref x :: st) i r := fun g p e R s m args below meth c cells slots Q hC X H locs ls hl hW hS => lv_ifnull X.1 X.2.1 hd (kk g p e R s m args below meth c cells slots Q hC X H locs ls hl hW hS)
theorem ok_ifnullN {off : Int} (tgt : Nat) (hd : decode M.2.1 pc = .ok (.ifnull off, 3)) (ht : (pc : Int) + off = (tgt : Int)) (kk : OkC G M C tgt lv st i r) : OkC G M C pc lv (.null :: st) i r := fun g p e R s m args below meth c cells slots Q hC X H locs ls hl hW hS => lv_ifnullN X.1 X.2.1 hd ht (kk g p e R s m args below meth c cells slots Q hC X H locs ls hl hW hS)
theorem ok_ifnonnullN {off : Int} (hd : decode M.2.1 pc = .ok (.ifnonnull off, 3)) (kk : OkC G M C (pc + 3) lv st i r) : OkC G M C pc lv (.null :: st) i r := fun g p e R s m args below meth c cells slots Q hC X H locs ls hl hW hS => lv_ifnonnullN X.1 X.2.1 hd (kk g p e R s m args below meth c cells slots Q hC X H locs ls hl hW hS)
theorem ok_ldc {idx : Nat} {v : Int32} (hd : decode M.2.1 pc = .ok (.ldc idx, 2)) (hw : Cond.constant M.1.cls idx v ∈ o_wt) (kk : OkC G M C (pc + 2) lv (.int v :: st) i r) : OkC G M C pc lv st i r := fun g p e R s m args below meth c cells slots Q hC X H locs ls hl hW hS => lv_ldc X.1 X.2.1 X.2.2.2.2.2.1 (X.2.2.2.2.2.2.1 _ hw) hd (kk g p e R s m args below meth c cells slots Q hC X H locs ls hl hW hS)
-- switches
theorem ok_tsOut {dflt lo hi : Int} {offs : Array Int} {len : Nat} {x : Int32} (tgt : Nat) (hd : decode M.2.1 pc = .ok (.tableswitch dflt lo hi offs, len)) (h : x.toInt < lo ∨ hi < x.toInt) (ht : (pc : Int) + dflt = (tgt : Int)) (kk : OkC G M C tgt lv st i r) : OkC G M C pc lv (.int x :: st) i r := fun g p e R s m args below meth c cells slots Q hC X H locs ls hl hW hS => lv_tableOut X.1 X.2.1 hd h ht (kk g p e R s m args below meth c cells slots Q hC X H locs ls hl hW hS)
theorem ok_tsIn {dflt lo hi : Int} {offs : Array Int} {len : Nat} {x : Int32} {off : Int} (tgt : Nat) (hd : decode M.2.1 pc = .ok (.tableswitch dflt lo hi offs, len)) (h1 : ¬ x.toInt < lo) (h2 : ¬ hi < x.toInt) (ho : offs[(x.toInt - lo).toNat]? = some off) (ht : (pc : Int) + off = (tgt : Int)) (kk : OkC G M C tgt lv st i r) : OkC G M C pc lv (.int x :: st) i r := fun g p e R s m args below meth c cells slots Q hC X H locs ls hl hW hS => lv_tableIn X.1 X.2.1 hd h1 h2 ho ht (kk g p e R s m args below meth c cells slots Q hC X H locs ls hl hW hS)
-- fields
theorem ok_get {idx a : Nat} (ci k : Nat) {v : Value} (hd : decode M.2.1 pc = .ok (.getfield idx, 3)) (hf : o_fl M.1.cls idx ci k) (ho : o_O G a ci) (hv : o_v i r a ci k = v) (kk : OkC G M C (pc + 3) lv (v :: st) i r) : OkC G M C pc lv (.ref a :: st) i r := fun g p e R s m args below meth c cells slots Q hC X H locs ls hl hW hS => by
  obtain ⟨hf1, hf2, hc1, hc2, -⟩ := hf
  obtain ⟨q0, hq⟩ := o_at (i := i) (r := r) ho.1
  rw [o_ce_O ho.2] at hq
  exact va_get X.1 X.2.1 X.2.2.2.2.2.2.1 hc2 X.2.2.2.2.2.1 X.2.2.2.2.2.2.2.1 hW q0 hq hc1 k hf2 (X.2.2.2.2.2.2.1 _ hf1) (fun _ h => h) (by rw [o_fs_get hf2, hv]) hd (kk g p e R s m args below meth c cells slots Q hC X H locs ls hl hW hS)
theorem ok_geti {idx a : Nat} (ci k : Nat) (hd : decode M.2.1 pc = .ok (.getfield idx, 3)) (hf : o_fl M.1.cls idx ci k) (hr : o_rf ci k = false) (ho : o_O G a ci) (kk : OkC G M C (pc + 3) lv (.int (i a k) :: st) i r) : OkC G M C pc lv (.ref a :: st) i r := ok_get ci k hd hf ho (by unfold o_v; rw [hr]; rfl) kk
theorem ok_getr {idx a : Nat} (ci k : Nat) (hd : decode M.2.1 pc = .ok (.getfield idx, 3)) (hf : o_fl M.1.cls idx ci k) (hr : o_rf ci k = true) (ho : o_O G a ci) (kk : OkC G M C (pc + 3) lv (.ref (r a k) :: st) i r) : OkC G M C pc lv (.ref a :: st) i r := ok_get ci k hd hf ho (by unfold o_v; rw [hr]; rfl) kk
theorem ok_puti {idx a : Nat} {x : Int32} (ci k : Nat) (ty : FieldType) (hd : decode M.2.1 pc = .ok (.putfield idx, 3)) (hf : o_fl M.1.cls idx ci k) (hr : o_rf ci k = false) (hfin : ((o_C ci).2.1 k).2.2.2 = false) (hty : parseFieldDescriptor ((o_C ci).2.1 k).2.2.1 = some ty) (hn : narrow ty (.int x) = .int x) (hfit : fits ty (.int x) = true) (ho : o_O G a ci) (kk : OkC G M C (pc + 3) lv st (o_up i a k x) r) : OkC G M C pc lv (.int x :: .ref a :: st) i r := fun g p e R s m args below meth c cells slots Q hC X H locs ls hl hW hS => by
  obtain ⟨hf1, hf2, hc1, hc2, ⟨ty0, hc3⟩, hc4⟩ := hf
  obtain ⟨q0, hq0⟩ := o_at (i := i) (r := r) ho.1
  have hq := hq0
  rw [o_ce_O ho.2] at hq
  refine va_put X.1 X.2.1 X.2.2.2.2.2.2.1 hc2 ty0 hc3 hc4 X.2.2.2.2.2.1 X.2.2.2.2.2.2.2.1 hW (o_D g i r) hS q0 hq hc1 k hf2 (X.2.2.2.2.2.2.1 _ hf1) (fun _ h => h) hfin hty hn hfit (by rw [o_fs_len]; exact hf2) hd (fun H1 locs1 hP1 _ hS1 => ?_)
  rw [o_set g (j := o_up i a k x) (q := r) ho.1 hq0 (by rw [o_ce_O ho.2, o_fs_set (j := o_up i a k x) (q := r) (by unfold o_v; rw [hr]; simp [o_up_s]) (fun n hn => by unfold o_v; rw [o_up_k hn])]) (fun b hb => ⟨o_up_row hb, rfl⟩)] at hP1
  exact kk g p e R s m args below meth c cells slots Q hC X H1 locs1 ls hl hP1 hS1
theorem ok_putr {idx a x : Nat} (ci k : Nat) (ty : FieldType) (hd : decode M.2.1 pc = .ok (.putfield idx, 3)) (hf : o_fl M.1.cls idx ci k) (hr : o_rf ci k = true) (hfin : ((o_C ci).2.1 k).2.2.2 = false) (hty : parseFieldDescriptor ((o_C ci).2.1 k).2.2.1 = some ty) (hn : narrow ty (.ref x) = .ref x) (hfit : fits ty (.ref x) = true) (ho : o_O G a ci) (kk : OkC G M C (pc + 3) lv st i (o_upr r a k x)) : OkC G M C pc lv (.ref x :: .ref a :: st) i r := fun g p e R s m args below meth c cells slots Q hC X H locs ls hl hW hS => by
  obtain ⟨hf1, hf2, hc1, hc2, ⟨ty0, hc3⟩, hc4⟩ := hf
  obtain ⟨q0, hq0⟩ := o_at (i := i) (r := r) ho.1
  have hq := hq0
  rw [o_ce_O ho.2] at hq
  refine va_put X.1 X.2.1 X.2.2.2.2.2.2.1 hc2 ty0 hc3 hc4 X.2.2.2.2.2.1 X.2.2.2.2.2.2.2.1 hW (o_D g i r) hS q0 hq hc1 k hf2 (X.2.2.2.2.2.2.1 _ hf1) (fun _ h => h) hfin hty hn hfit (by rw [o_fs_len]; exact hf2) hd (fun H1 locs1 hP1 _ hS1 => ?_)
  rw [o_set g (j := i) (q := o_upr r a k x) ho.1 hq0 (by rw [o_ce_O ho.2, o_fs_set (j := i) (q := o_upr r a k x) (by unfold o_v; rw [hr]; simp [o_upr_s]) (fun n hn => by unfold o_v; rw [o_upr_k hn])]) (fun b hb => ⟨rfl, o_upr_row hb⟩)] at hP1
  exact kk g p e R s m args below meth c cells slots Q hC X H1 locs1 ls hl hP1 hS1
-- arrays
theorem ok_iald {a : Nat} {x : Int32} (hd : decode M.2.1 pc = .ok (.iaload, 1)) (ho : o_Y G a 1) (hx : vp_in x (o_len G a)) (kk : OkC G M C (pc + 1) lv (.int (i a x.toNatClampNeg) :: st) i r) : OkC G M C pc lv (.int x :: .ref a :: st) i r := fun g p e R s m args below meth c cells slots Q hC X H locs ls hl hW hS => by
  obtain ⟨q0, hq⟩ := o_at (i := i) (r := r) ho.1
  rw [o_ce_1 ho.2] at hq
  exact va_iald X.1 X.2.1 X.2.2.2.2.2.2.2.1 hW q0 0 hq rfl hx hd (kk g p e R s m args below meth c cells slots Q hC X H locs ls hl hW hS)
theorem ok_cald {a : Nat} {x : Int32} (hd : decode M.2.1 pc = .ok (.caload, 1)) (ho : o_Y G a 2) (hx : vp_in x (o_len G a)) (kk : OkC G M C (pc + 1) lv (.int (i a x.toNatClampNeg) :: st) i r) : OkC G M C pc lv (.int x :: .ref a :: st) i r := fun g p e R s m args below meth c cells slots Q hC X H locs ls hl hW hS => by
  obtain ⟨q0, hq⟩ := o_at (i := i) (r := r) ho.1
  rw [o_ce_2 ho.2] at hq
  exact va_cald X.1 X.2.1 X.2.2.2.2.2.2.2.1 hW q0 1 hq rfl hx hd (kk g p e R s m args below meth c cells slots Q hC X H locs ls hl hW hS)
theorem ok_iast {a : Nat} {x y : Int32} (hd : decode M.2.1 pc = .ok (.iastore, 1)) (ho : o_Y G a 1) (hx : vp_in x (o_len G a)) (kk : OkC G M C (pc + 1) lv st (o_up i a x.toNatClampNeg y) r) : OkC G M C pc lv (.int y :: .int x :: .ref a :: st) i r := fun g p e R s m args below meth c cells slots Q hC X H locs ls hl hW hS => by
  obtain ⟨q0, hq0⟩ := o_at (i := i) (r := r) ho.1
  have hq := hq0
  rw [o_ce_1 ho.2] at hq
  refine va_iast X.1 X.2.1 X.2.2.2.2.2.2.2.1 hW (o_D g i r) hS q0 0 hq rfl hx hd (fun H1 locs1 hP1 _ hS1 => ?_)
  rw [o_set g (j := o_up i a x.toNatClampNeg y) (q := r) ho.1 hq0 (by rw [o_ce_1 ho.2, o_up_self]) (fun b hb => ⟨o_up_row hb, rfl⟩)] at hP1
  exact kk g p e R s m args below meth c cells slots Q hC X H1 locs1 ls hl hP1 hS1
theorem ok_cast {a : Nat} {x y : Int32} (hd : decode M.2.1 pc = .ok (.castore, 1)) (ho : o_Y G a 2) (hx : vp_in x (o_len G a)) (kk : OkC G M C (pc + 1) lv st (o_up i a x.toNatClampNeg (vp_nar .char y)) r) : OkC G M C pc lv (.int y :: .int x :: .ref a :: st) i r := fun g p e R s m args below meth c cells slots Q hC X H locs ls hl hW hS => by
  obtain ⟨q0, hq0⟩ := o_at (i := i) (r := r) ho.1
  have hq := hq0
  rw [o_ce_2 ho.2] at hq
  refine va_cast X.1 X.2.1 X.2.2.2.2.2.2.2.1 hW (o_D g i r) hS q0 1 hq rfl hx hd (fun H1 locs1 hP1 _ hS1 => ?_)
  rw [o_set g (j := o_up i a x.toNatClampNeg (vp_nar .char y)) (q := r) ho.1 hq0 (by rw [o_ce_2 ho.2, o_up_self]) (fun b hb => ⟨o_up_row hb, rfl⟩)] at hP1
  exact kk g p e R s m args below meth c cells slots Q hC X H1 locs1 ls hl hP1 hS1
theorem ok_ald3 {a : Nat} {x : Int32} (hd : decode M.2.1 pc = .ok (.aaload, 1)) (ho : o_Y G a 3) (hx : vp_in x (o_len G a)) (kk : OkC G M C (pc + 1) lv (.ref (r a x.toNatClampNeg) :: st) i r) : OkC G M C pc lv (.int x :: .ref a :: st) i r := fun g p e R s m args below meth c cells slots Q hC X H locs ls hl hW hS => by
  obtain ⟨q0, hq⟩ := o_at (i := i) (r := r) ho.1
  rw [o_ce_r 0 ho.2] at hq
  have hlt : x.toNatClampNeg < o_len G a := Nat.not_le.mp fun q => hx (Or.inr q)
  exact W.aald (v := .ref (r a x.toNatClampNeg)) (ty := .array .int) X.1 X.2.1 (hW q0 _ hq) ((X.2.2.2.2.2.2.2.1.2 2 (o_kA G 3, .array .int) rfl).1 (o_len G a) (fun j => va_rf (some (r a j)))) rfl (fun q => by cases q) (by show ¬ (x < 0 ∨ (arrV _ _ _).slots.size ≤ _); rw [arrV_size]; exact hx) (by show (arrV (o_kA G 3) (o_len G a) (fun j => va_rf (some (r a j)))).slots[_]? = _; rw [arrV_read _ _ hlt]; rfl) rfl rfl hd (kk g p e R s m args below meth c cells slots Q hC X H locs ls hl hW hS)
theorem ok_ald4 {a : Nat} {x : Int32} (hd : decode M.2.1 pc = .ok (.aaload, 1)) (ho : o_Y G a 4) (hx : vp_in x (o_len G a)) (kk : OkC G M C (pc + 1) lv (.ref (r a x.toNatClampNeg) :: st) i r) : OkC G M C pc lv (.int x :: .ref a :: st) i r := fun g p e R s m args below meth c cells slots Q hC X H locs ls hl hW hS => by
  obtain ⟨q0, hq⟩ := o_at (i := i) (r := r) ho.1
  rw [o_ce_r 1 ho.2] at hq
  exact va_aldq X.1 X.2.1 X.2.2.2.2.2.2.2.1 hW q0 3 hq rfl hx hd (kk g p e R s m args below meth c cells slots Q hC X H locs ls hl hW hS)
theorem ok_ald5 {a : Nat} {x : Int32} (hd : decode M.2.1 pc = .ok (.aaload, 1)) (ho : o_Y G a 5) (hx : vp_in x (o_len G a)) (kk : OkC G M C (pc + 1) lv (.ref (r a x.toNatClampNeg) :: st) i r) : OkC G M C pc lv (.int x :: .ref a :: st) i r := fun g p e R s m args below meth c cells slots Q hC X H locs ls hl hW hS => by
  obtain ⟨q0, hq⟩ := o_at (i := i) (r := r) ho.1
  rw [o_ce_r 2 ho.2] at hq
  exact va_aldq X.1 X.2.1 X.2.2.2.2.2.2.2.1 hW q0 4 hq rfl hx hd (kk g p e R s m args below meth c cells slots Q hC X H locs ls hl hW hS)
theorem ok_alen1 {a : Nat} (hd : decode M.2.1 pc = .ok (.arraylength, 1)) (ho : o_Y G a 1) (kk : OkC G M C (pc + 1) lv (.int (nI (o_len G a)) :: st) i r) : OkC G M C pc lv (.ref a :: st) i r := fun g p e R s m args below meth c cells slots Q hC X H locs ls hl hW hS => by
  obtain ⟨q0, hq⟩ := o_at (i := i) (r := r) ho.1
  rw [o_ce_1 ho.2] at hq
  exact va_alen X.1 X.2.1 X.2.2.2.2.2.2.2.1 hW q0 0 hq rfl rfl hd (kk g p e R s m args below meth c cells slots Q hC X H locs ls hl hW hS)
theorem ok_alen2 {a : Nat} (hd : decode M.2.1 pc = .ok (.arraylength, 1)) (ho : o_Y G a 2) (kk : OkC G M C (pc + 1) lv (.int (nI (o_len G a)) :: st) i r) : OkC G M C pc lv (.ref a :: st) i r := fun g p e R s m args below meth c cells slots Q hC X H locs ls hl hW hS => by
  obtain ⟨q0, hq⟩ := o_at (i := i) (r := r) ho.1
  rw [o_ce_2 ho.2] at hq
  exact va_alen X.1 X.2.1 X.2.2.2.2.2.2.2.1 hW q0 1 hq rfl rfl hd (kk g p e R s m args below meth c cells slots Q hC X H locs ls hl hW hS)
-- returns
theorem ok_vret {d : Nat} {P : o_P} (hd : decode M.2.1 pc = .ok (.return_, 1)) (hr : M.2.2.2 = none) (h : P none i r) : Ok G d M P pc lv [] i r := fun g p e R s m args below meth c cells slots Q hC X H locs ls hl hW hS => by
  obtain ⟨rfl, rfl, rfl, rfl⟩ := hC
  exact W.vret (hlocks := X.2.2.2.2.1) X.1 X.2.1 (X.2.2.2.1.trans hr) (fun t ht hw => ⟨⟨none, i, r, rfl, h, by rw [ht]; exact hW⟩, hS.F ht⟩) hS.2.2 hd
theorem ok_iret {d : Nat} {P : o_P} {x : Int32} (ty : FieldType) (hd : decode M.2.1 pc = .ok (.ireturn, 1)) (hr : M.2.2.2 = some ty) (hn : narrow ty (.int x) = .int x) (h : P (some (.int x)) i r) : Ok G d M P pc lv [.int x] i r := fun g p e R s m args below meth c cells slots Q hC X H locs ls hl hW hS => by
  obtain ⟨rfl, rfl, rfl, rfl⟩ := hC
  exact W.zret (hlocks := X.2.2.2.2.1) X.1 X.2.1 (X.2.2.2.1.trans hr) hn (fun t ht hw => ⟨⟨some (.int x), i, r, rfl, h, by rw [ht]; exact hW⟩, hS.F ht⟩) hS.2.2 hd
theorem ok_aret {d : Nat} {P : o_P} {v : Option Nat} (K : String) (hd : decode M.2.1 pc = .ok (.areturn, 1)) (hr : M.2.2.2 = some (.object K)) (h : P (some (va_rf v)) i r) : Ok G d M P pc lv [va_rf v] i r := fun g p e R s m args below meth c cells slots Q hC X H locs ls hl hW hS => by
  obtain ⟨rfl, rfl, rfl, rfl⟩ := hC
  exact W.aret (hlocks := X.2.2.2.2.1) X.1 X.2.1 (X.2.2.2.1.trans hr) (Or.inl ⟨K, rfl⟩) (va_rf_or v) (fun t ht hw => ⟨⟨some (va_rf v), i, r, rfl, h, by rw [ht]; exact hW⟩, hS.F ht⟩) hS.2.2 hd
-- Math
theorem ok_min {d idx : Nat} {x y : Int32} (hR : o_room C d) (hd : decode M.2.1 pc = .ok (.invokestatic idx, 3)) (h1 : Cond.methodLink M.1.cls idx Lib.Math.min.name ∈ o_wt) (h2 : Cond.static Lib.Math.min.name ∈ o_wt) (h3 : Cond.initialized "java/lang/Math" ∈ o_wt) (h4 : Cond.code Lib.Math.min.name Lib.Math.min.code 2 (some .int) ∈ o_wt) (hs : (st.map fun v => v.category).sum ≤ 8) (kk : OkC G M C (pc + 3) lv (.int (if y < x then y else x) :: st) i r) : OkC G M C pc lv (.int y :: .int x :: st) i r := fun g p e R s m args below meth c cells slots Q hC X H locs ls hl hW hS => by
  have ht := X.2.2.2.2.2.2.1
  obtain ⟨q1, q2, q3, q4⟩ := hR _ _ _ _ _ _ _ hC
  exact va_mmin X.1 X.2.1 (X.2.2.1.trans hl.1.symm) X.2.2.2.2.2.1 (ht _ h1) (ht _ h2) (ht _ h3) (ht _ h4) (by omega) (by omega) q3 q4 hd (kk g p e R s m args below meth c cells slots Q hC X H locs ls hl hW hS)
theorem ok_max {d idx : Nat} {x y : Int32} (hR : o_room C d) (hd : decode M.2.1 pc = .ok (.invokestatic idx, 3)) (h1 : Cond.methodLink M.1.cls idx Lib.Math.max.name ∈ o_wt) (h2 : Cond.static Lib.Math.max.name ∈ o_wt) (h3 : Cond.initialized "java/lang/Math" ∈ o_wt) (h4 : Cond.code Lib.Math.max.name Lib.Math.max.code 2 (some .int) ∈ o_wt) (hs : (st.map fun v => v.category).sum ≤ 8) (kk : OkC G M C (pc + 3) lv (.int (if x < y then y else x) :: st) i r) : OkC G M C pc lv (.int y :: .int x :: st) i r := fun g p e R s m args below meth c cells slots Q hC X H locs ls hl hW hS => by
  have ht := X.2.2.2.2.2.2.1
  obtain ⟨q1, q2, q3, q4⟩ := hR _ _ _ _ _ _ _ hC
  exact va_mmax X.1 X.2.1 (X.2.2.1.trans hl.1.symm) X.2.2.2.2.2.1 (ht _ h1) (ht _ h2) (ht _ h3) (ht _ h4) (by omega) (by omega) q3 q4 hd (kk g p e R s m args below meth c cells slots Q hC X H locs ls hl hW hS)
-- calls
theorem o_Kn {s U : State} {H : Heap} {locs : List Loc} (g : o_g G) (hK : o_K G s) (hS : va_S (o_A G) s.heap H locs) (hU : U.heap = H) (hW : s.WarmedH U.vm) : o_K G U := ⟨va_K.moved hW.alike hK.1, g.2 s U hK.2 hW (by rw [hU]; exact hS.1) (fun a h1 h2 => by rw [hU]; exact hS.2.1 a h1 h2)⟩
theorem o_fb {as : List Value} : o_g G → FrameBlind (o_Pc G as i r) := fun g a U fr mk q => ⟨q.1, q.2.1, va_K.moved (u := U) (U := U.calling fr mk a) (Vm.Alike.refl U.vm) q.2.2.1, g.2 U (U.calling fr mk a) q.2.2.2 (State.WarmedH.refl U) (Nat.le_refl _) (fun _ _ _ => rfl)⟩
theorem o_back {st0 : List Value} {P1 : o_P} {p : Program} {e : Env} {R : Room} {s : State} {m : MethodId} {args : Array Value} {below : List Frame} {meth : Method} {c : Code} {cells slots : Nat} {Q : State → Prop} {H : Heap} {locs : List Loc} {ls : Array Slot} {a : Array Value} {rest : List Value} (g : o_g G) (hC : C R s args below cells slots Q) (X : o_X G M p s m args meth c) (hl : o_lc ls M.2.2.1 lv) (hS : va_S (o_A G) s.heap H locs)
    (hr : va_Run p G.1 e R s m args below meth c H locs cells slots 0 0 (F0 m pc ls st0) rest (o_Q G P1 a) (o_A G)) (kk : ∀ v i r, P1 v i r → OkC G M C (pc + 3) lv (v.toList ++ rest) i r) : W p G.1 e R s m args below meth c H locs cells slots Q (F0 m pc ls st0) := by
  intro T hT Z
  obtain ⟨v, st₀, t, T', L, h0, Z', hL, e1, e2, ⟨⟨v1, i1, r1, hv, hp, hb⟩, hz, hk⟩, stp⟩ := hr T hT Z
  cases hv
  rw [h0] at hz hk
  obtain ⟨t2, a1, b1⟩ := kk v i1 r1 hp g p e R s m args below meth c cells slots Q hC X T'.heap (locs ++ L) ls hl (by rw [e1]; exact hb) ⟨Nat.le_trans hS.1 (by rw [e1]; exact hz), fun q h1 h2 => by rw [e1, hk q (Nat.lt_of_lt_of_le h1 hS.1) h2]; exact hS.2.1 q h1 h2, fun q hq => by
      rcases List.mem_append.mp hq with h | h
      · exact hS.2.2 q h
      · exact hL q h⟩ T' rfl Z'
  exact ⟨t2, stp t2 a1, b1⟩
/-- what a call of N from class own at pool place idx needs of the tables; n arguments; cv: an instance method of class C -/
def o_cS (own : String) (idx : Nat) (N : o_M) (n : Nat) : Prop := o_cd N ∈ o_wt ∧ Cond.methodLink own idx N.1 ∈ o_wt ∧ Cond.initialized N.1.cls ∈ o_wt ∧ Cond.static N.1 ∈ o_wt ∧ N.2.2.1 ≤ 15 ∧ (N.1.cls ≠ "java/lang/invoke/MethodHandle" ∧ N.1.cls ≠ "java/lang/invoke/VarHandle" ∧ (parseMethodDescriptor N.1.desc).map (fun d => d.parameters.length) = some n)
def o_cV (own : String) (idx : Nat) (N : o_M) (n ci : Nat) : Prop := o_cd N ∈ o_wt ∧ Cond.methodLink own idx N.1 ∈ o_wt ∧ Cond.initialized N.1.cls ∈ o_wt ∧ Cond.instanceMethod N.1 ∈ o_wt ∧ Cond.selects N.1.cls N.1 N.1 ∈ o_wt ∧ N.2.2.1 ≤ 15 ∧ (N.1.cls ≠ "java/lang/invoke/MethodHandle" ∧ N.1.cls ≠ "java/lang/invoke/VarHandle" ∧ (parseMethodDescriptor N.1.desc).map (fun d => d.parameters.length) = some n) ∧ vwCl[ci]? = some (o_C ci) ∧ (o_C ci).1 = N.1.cls
theorem ok_callS {d idx : Nat} {N : o_M} {n : Nat} {P1 : o_P} {st0 rest : List Value} (hR : o_room C d) (as : List Value) (hd : decode M.2.1 pc = .ok (.invokestatic idx, 3)) (hc : o_cS M.1.cls idx N n) (hn : as.length = n) (hst : st0 = as.reverse ++ rest) (hs : (rest.map fun v => v.category).sum ≤ 8) (h : Sp G d N as P1 i r) (kk : ∀ v i r, P1 v i r → OkC G M C (pc + 3) lv (v.toList ++ rest) i r) : OkC G M C pc lv st0 i r := fun g p e R s m args below meth c cells slots Q hC X H locs ls hl hW hS => by
  obtain ⟨c1, c2, c3, c4, c5, c6⟩ := hc
  have ht := X.2.2.2.2.2.2.1
  obtain ⟨q1, q2, q3, q4⟩ := hR _ _ _ _ _ _ _ hC
  refine o_back g hC X hl hS (va_runS (As := as) (rest := rest) (n := n) (own := M.1.cls) (index := idx) (bytes := N.2.1) (maxL := N.2.2.1) (ret := N.2.2.2) ⟨X.1, X.2.1, X.2.2.1, X.2.2.2.2.2.1, ht⟩ (h g) ⟨callB_of n ht (o_good c1) rfl rfl rfl (ht _ c3) (ht _ c2) c6 ⟨by show d + 1 ≤ _; omega, by show 8 + (N.2.2.1 + 11) + 34 * d ≤ _; omega⟩, ht _ c4⟩ ⟨o_fb g, fun U hU hw => ⟨rfl, by rw [hU]; exact hW, o_Kn g X.2.2.2.2.2.2.2 hS hU hw⟩⟩ rfl hn hl.1 hst (lv_room hs) hd ⟨q3, q4⟩) kk
theorem ok_callV {d idx b ci : Nat} {N : o_M} {n : Nat} {P1 : o_P} {st0 rest : List Value} (hR : o_room C d) (as : List Value) (hd : decode M.2.1 pc = .ok (.invokevirtual idx, 3)) (hc : o_cV M.1.cls idx N n ci) (ho : o_O G b ci) (hn : as.length = n) (hst : st0 = as.reverse ++ .ref b :: rest) (hs : (rest.map fun v => v.category).sum ≤ 8) (h : Sp G d N (.ref b :: as) P1 i r) (kk : ∀ v i r, P1 v i r → OkC G M C (pc + 3) lv (v.toList ++ rest) i r) : OkC G M C pc lv st0 i r := fun g p e R s m args below meth c cells slots Q hC X H locs ls hl hW hS => by
  obtain ⟨c1, c2, c3, c4, c5, c6, c7, c8, c9⟩ := hc
  have ht := X.2.2.2.2.2.2.1
  obtain ⟨q1, q2, q3, q4⟩ := hR _ _ _ _ _ _ _ hC
  obtain ⟨q0, hq⟩ := o_at (i := i) (r := r) ho.1
  rw [o_ce_O ho.2] at hq
  have hrv := va_recv X.2.2.2.2.2.2.2.1 hW c8 hq
  rw [c9] at hrv
  refine o_back g hC X hl hS (va_runV (As := as) (rest := rest) (n := n) (own := M.1.cls) (C := N.1.cls) (index := idx) (bytes := N.2.1) (maxL := N.2.2.1) (ret := N.2.2.2) ⟨X.1, X.2.1, X.2.2.1, X.2.2.2.2.2.1, ht⟩ (h g) ⟨callB_of n ht (o_good c1) rfl rfl rfl (ht _ c3) (ht _ c2) c7 ⟨by show d + 1 ≤ _; omega, by show 8 + (N.2.2.1 + 11) + 34 * d ≤ _; omega⟩, ht _ c4, ht _ c5⟩ ⟨o_fb g, hrv, fun U hU hw => ⟨rfl, by rw [hU]; exact hW, o_Kn g X.2.2.2.2.2.2.2 hS hU hw⟩⟩ rfl hn hl.1 hst (lv_room hs) hd ⟨q3, q4⟩) kk
theorem ok_cVi {d idx b : Nat} (hR : o_room C d) (ci : Nat) {N : o_M} {n : Nat} {P1 : Int32 → o_I → Prop} {st0 rest : List Value} (as : List Value) (hd : decode M.2.1 pc = .ok (.invokevirtual idx, 3)) (hc : o_cV M.1.cls idx N n ci) (ho : o_O G b ci) (hn : as.length = n) (hst : st0 = as.reverse ++ .ref b :: rest) (hs : (rest.map fun v => v.category).sum ≤ 8) (h : SpI G d N (.ref b :: as) P1 i r) (kk : ∀ x j, P1 x j → OkC G M C (pc + 3) lv (.int x :: rest) j r) : OkC G M C pc lv st0 i r := ok_callV hR as hd hc ho hn hst hs h (fun v j q hv => by obtain ⟨rfl, x, rfl, hx⟩ := hv; exact kk x j hx)
theorem ok_cVv {d idx b : Nat} (hR : o_room C d) (ci : Nat) {N : o_M} {n : Nat} {P1 : o_I → Prop} {st0 rest : List Value} (as : List Value) (hd : decode M.2.1 pc = .ok (.invokevirtual idx, 3)) (hc : o_cV M.1.cls idx N n ci) (ho : o_O G b ci) (hn : as.length = n) (hst : st0 = as.reverse ++ .ref b :: rest) (hs : (rest.map fun v => v.category).sum ≤ 8) (h : SpV G d N (.ref b :: as) P1 i r) (kk : ∀ j, P1 j → OkC G M C (pc + 3) lv rest j r) : OkC G M C pc lv st0 i r := ok_callV hR as hd hc ho hn hst hs h (fun v j q hv => by obtain ⟨rfl, rfl, hx⟩ := hv; exact kk j hx)
theorem ok_cVq {d idx b : Nat} (hR : o_room C d) (ci : Nat) {N : o_M} {n : Nat} {P1 : Option Nat → o_I → Prop} {st0 rest : List Value} (as : List Value) (hd : decode M.2.1 pc = .ok (.invokevirtual idx, 3)) (hc : o_cV M.1.cls idx N n ci) (ho : o_O G b ci) (hn : as.length = n) (hst : st0 = as.reverse ++ .ref b :: rest) (hs : (rest.map fun v => v.category).sum ≤ 8) (h : SpQ G d N (.ref b :: as) P1 i r) (kk : ∀ x j, P1 x j → OkC G M C (pc + 3) lv (va_rf x :: rest) j r) : OkC G M C pc lv st0 i r := ok_callV hR as hd hc ho hn hst hs h (fun v j q hv => by obtain ⟨rfl, x, rfl, hx⟩ := hv; exact kk x j hx)
theorem ok_cSi {d idx : Nat} (hR : o_room C d) {N : o_M} {n : Nat} {P1 : Int32 → o_I → Prop} {st0 rest : List Value} (as : List Value) (hd : decode M.2.1 pc = .ok (.invokestatic idx, 3)) (hc : o_cS M.1.cls idx N n) (hn : as.length = n) (hst : st0 = as.reverse ++ rest) (hs : (rest.map fun v => v.category).sum ≤ 8) (h : SpI G d N as P1 i r) (kk : ∀ x j, P1 x j → OkC G M C (pc + 3) lv (.int x :: rest) j r) : OkC G M C pc lv st0 i r := ok_callS hR as hd hc hn hst hs h (fun v j q hv => by obtain ⟨rfl, x, rfl, hx⟩ := hv; exact kk x j hx)
theorem ok_cSv {d idx : Nat} (hR : o_room C d) {N : o_M} {n : Nat} {P1 : o_I → Prop} {st0 rest : List Value} (as : List Value) (hd : decode M.2.1 pc = .ok (.invokestatic idx, 3)) (hc : o_cS M.1.cls idx N n) (hn : as.length = n) (hst : st0 = as.reverse ++ rest) (hs : (rest.map fun v => v.category).sum ≤ 8) (h : SpV G d N as P1 i r) (kk : ∀ j, P1 j → OkC G M C (pc + 3) lv rest j r) : OkC G M C pc lv st0 i r := ok_callS hR as hd hc hn hst hs h (fun v j q hv => by obtain ⟨rfl, rfl, hx⟩ := hv; exact kk j hx)
theorem ok_cVir {d idx b : Nat} (hR : o_room C d) (ci : Nat) {N : o_M} {n : Nat} {P1 : Int32 → o_I → o_R → Prop} {st0 rest : List Value} (as : List Value) (hd : decode M.2.1 pc = .ok (.invokevirtual idx, 3)) (hc : o_cV M.1.cls idx N n ci) (ho : o_O G b ci) (hn : as.length = n) (hst : st0 = as.reverse ++ .ref b :: rest) (hs : (rest.map fun v => v.category).sum ≤ 8) (h : SpIr G d N (.ref b :: as) P1 i r) (kk : ∀ x j q, P1 x j q → OkC G M C (pc + 3) lv (.int x :: rest) j q) : OkC G M C pc lv st0 i r := ok_callV hR as hd hc ho hn hst hs h (fun v j q hv => by obtain ⟨x, rfl, hx⟩ := hv; exact kk x j q hx)
theorem ok_cVvr {d idx b : Nat} (hR : o_room C d) (ci : Nat) {N : o_M} {n : Nat} {P1 : o_I → o_R → Prop} {st0 rest : List Value} (as : List Value) (hd : decode M.2.1 pc = .ok (.invokevirtual idx, 3)) (hc : o_cV M.1.cls idx N n ci) (ho : o_O G b ci) (hn : as.length = n) (hst : st0 = as.reverse ++ .ref b :: rest) (hs : (rest.map fun v => v.category).sum ≤ 8) (h : SpVr G d N (.ref b :: as) P1 i r) (kk : ∀ j q, P1 j q → OkC G M C (pc + 3) lv rest j q) : OkC G M C pc lv st0 i r := ok_callV hR as hd hc ho hn hst hs h (fun v j q hv => by obtain ⟨rfl, hx⟩ := hv; exact kk j q hx)
end OK

/-! A WORLD THAT GROWS: the cells x, x + 1 .. x + n - 1 are there; references may be null -/
abbrev n_R : Type := Nat → Nat → Option Nat
def n_up (r : n_R) (a k : Nat) (y : Option Nat) : n_R := fun b j => if b = a ∧ j = k then y else r b j
theorem n_up_s {r : n_R} {a k : Nat} {y : Option Nat} : n_up r a k y a k = y := by simp [n_up]
theorem n_up_a {r : n_R} {a k b j : Nat} {y : Option Nat} (h : b ≠ a) : n_up r a k y b j = r b j := by simp [n_up, h]
theorem n_up_k {r : n_R} {a k b j : Nat} {y : Option Nat} (h : j ≠ k) : n_up r a k y b j = r b j := by simp [n_up, h]
def n_v (i : o_I) (r : n_R) (a ci k : Nat) : Value := if o_rf ci k = true then va_rf (r a k) else .int (i a k)
def n_fs (i : o_I) (r : n_R) (a ci : Nat) : List Value := (List.range (o_C ci).2.2).map (n_v i r a ci)
def n_ce (kA : Nat → ClassId) (S : Nat → Nat × Nat) (i : o_I) (r : n_R) (a : Nat) : va_E := match (S a).1 with
  | 0 => .inr ((S a).2, n_fs i r a (S a).2)
  | 1 => .inl (kA 1, (S a).2, .inl (i a))
  | 2 => .inl (kA 2, (S a).2, .inl (i a))
  | k + 3 => .inl (kA (k + 3), (S a).2, .inr (.inr (.inr (.inr (r a)))))
def n_w (G : o_G) (x n : Nat) (i : o_I) (r : n_R) : va_W := va_pl (List.range' x n) (n_ce (o_kA G) (o_S G) i r)
def n_W (G : o_G) (x n : Nat) (i : o_I) (r : n_R) (H : Heap) : Prop := va_P G.2.1 vwCl (n_w G x n i r) H
def n_A (x : Nat) : Nat → Prop := fun q => x ≤ q
def n_sl (q : Nat × Nat) : Nat := if q.1 = 0 then (o_C q.2).2.2 else q.2
/-- how many slots the first n cells have -/
def n_s (S : Nat → Nat × Nat) (x : Nat) : Nat → Nat
  | 0 => 0
  | n + 1 => n_s S x n + n_sl (S (x + n))
theorem n_s_le (S : Nat → Nat × Nat) (x : Nat) : ∀ m n, n_s S x n ≤ n_s S x (n + m) := by
  intro m
  induction m with
  | zero => intro n; exact Nat.le_refl _
  | succ m ih =>
    intro n
    have := ih n
    show _ ≤ n_s S x (n + m) + n_sl (S (x + (n + m)))
    omega
theorem n_s_mono (S : Nat → Nat × Nat) (x : Nat) {a b : Nat} (h : a ≤ b) : n_s S x a ≤ n_s S x b := by
  have := n_s_le S x (b - a) a
  rw [show a + (b - a) = b by omega] at this
  exact this
theorem n_fs_get {i : o_I} {r : n_R} {a ci k : Nat} (h : k < (o_C ci).2.2) : (n_fs i r a ci)[k]? = some (n_v i r a ci k) := by
  unfold n_fs
  rw [List.getElem?_map, List.getElem?_range h]
  rfl
theorem n_fs_len {i : o_I} {r : n_R} {a ci : Nat} : (n_fs i r a ci).length = (o_C ci).2.2 := by
  unfold n_fs
  rw [List.length_map, List.length_range]
theorem n_fs_set {i j : o_I} {r q : n_R} {a ci k : Nat} {v : Value} (hk : n_v j q a ci k = v) (h : ∀ n, n ≠ k → n_v j q a ci n = n_v i r a ci n) : (n_fs i r a ci).set k v = n_fs j q a ci := by
  apply List.ext_getElem?
  intro n
  by_cases hn : n < (o_C ci).2.2
  · by_cases e : n = k
    · subst e
      rw [List.getElem?_set_self (by rw [n_fs_len]; exact hn), n_fs_get hn, hk]
    · rw [List.getElem?_set_ne (Ne.symm e), n_fs_get hn, n_fs_get hn, h n e]
  · rw [List.getElem?_eq_none (by rw [List.length_set, n_fs_len]; omega), List.getElem?_eq_none (by rw [n_fs_len]; omega)]
theorem n_ce_O {kA : Nat → ClassId} {S : Nat → Nat × Nat} {i : o_I} {r : n_R} {a ci : Nat} (h : S a = (0, ci)) : n_ce kA S i r a = .inr (ci, n_fs i r a ci) := by
  unfold n_ce
  rw [h]
theorem n_ce_1 {kA : Nat → ClassId} {S : Nat → Nat × Nat} {i : o_I} {r : n_R} {a m : Nat} (h : S a = (1, m)) : n_ce kA S i r a = .inl (kA 1, m, .inl (i a)) := by
  unfold n_ce
  rw [h]
theorem n_ce_2 {kA : Nat → ClassId} {S : Nat → Nat × Nat} {i : o_I} {r : n_R} {a m : Nat} (h : S a = (2, m)) : n_ce kA S i r a = .inl (kA 2, m, .inl (i a)) := by
  unfold n_ce
  rw [h]
theorem n_ce_r {kA : Nat → ClassId} {S : Nat → Nat × Nat} {i : o_I} {r : n_R} {a m : Nat} (k : Nat) (h : S a = (k + 3, m)) : n_ce kA S i r a = .inl (kA (k + 3), m, .inr (.inr (.inr (.inr (r a))))) := by
  unfold n_ce
  rw [h]
theorem n_ce_cg {kA : Nat → ClassId} {S : Nat → Nat × Nat} {i j : o_I} {r q : n_R} {b : Nat} (h : j b = i b) (h2 : q b = r b) : n_ce kA S j q b = n_ce kA S i r b := by
  have e : ∀ ci, n_fs j q b ci = n_fs i r b ci := by
    intro ci
    unfold n_fs
    congr 1
    funext k
    simp [n_v, h, h2]
  unfold n_ce
  rw [e, h, h2]
theorem n_in {x n a : Nat} (h1 : x ≤ a) (h2 : a < x + n) : a ∈ List.range' x n := List.mem_range'_1.mpr ⟨h1, h2⟩
theorem n_D (G : o_G) (x n : Nat) (i : o_I) (r : n_R) : va_D (n_A x) (n_w G x n i r) := by
  have key : ∀ (m : Nat) (p : Nat × va_E), (n_w G x n i r)[m]? = some p → (List.range' x n)[m]? = some p.1 := by
    intro m p hp
    unfold n_w va_pl at hp
    rw [List.getElem?_map] at hp
    cases hb : (List.range' x n)[m]? with
    | none => rw [hb] at hp; cases hp
    | some b => rw [hb] at hp; cases hp; rfl
  have nd : (List.range' x n).Nodup := List.nodup_range'
  refine ⟨fun m j p q hp hq e => ?_, fun m q hq => (List.mem_range'_1.mp (List.mem_of_getElem? (key m q hq))).1⟩
  have h1 := key m p hp
  have h2 := key j q hq
  exact (List.getElem?_inj (List.getElem?_eq_some_iff.mp h1).1 nd).mp (by rw [h1, h2, e])
theorem n_len (G : o_G) (x n : Nat) (i : o_I) (r : n_R) : (n_w G x n i r).length = n := by
  unfold n_w va_pl
  rw [List.length_map, List.length_range']
theorem n_at {G : o_G} {x n : Nat} {i : o_I} {r : n_R} {a : Nat} (h1 : x ≤ a) (h2 : a < x + n) : ∃ k : Nat, (n_w G x n i r)[k]? = some (a, n_ce (o_kA G) (o_S G) i r a) := va_pl_get (X := []) (n_in h1 h2)
theorem n_set {G : o_G} {x n : Nat} {i j : o_I} {r q : n_R} {a m : Nat} {e : va_E} (h1 : x ≤ a) (h2 : a < x + n) (hk : (n_w G x n i r)[m]? = some (a, n_ce (o_kA G) (o_S G) i r a)) (he : n_ce (o_kA G) (o_S G) j q a = e) (ho : ∀ b, b ≠ a → j b = i b ∧ q b = r b) : (n_w G x n i r).set m (a, e) = n_w G x n j q := by
  have h1 : (n_w G x n i r).set m (a, e) = va_pl (List.range' x n) (va_up (n_ce (o_kA G) (o_S G) i r) a e) := va_pl_set (X := []) (n_D G x n i r) (n_in h1 h2) hk
  rw [h1]
  refine va_pl_congr (fun b => ?_)
  by_cases hb : b = a
  · subst hb
    rw [va_up_self, he]
  · rw [va_up_ne _ _ hb]
    exact (n_ce_cg (ho b hb).1 (ho b hb).2).symm
theorem n_push {G : o_G} {x n : Nat} {i : o_I} {r : n_R} : n_w G x (n + 1) i r = n_w G x n i r ++ [(x + n, n_ce (o_kA G) (o_S G) i r (x + n))] := by
  unfold n_w va_pl
  rw [List.range'_1_concat, List.map_append]
  rfl
/-- the heap has no more than the cells that were counted -/
theorem w_size {p : Program} {l : Launch} {e : Env} {R : Room} {s : State} {m : MethodId} {args : Array Value} {below : List Frame} {meth : Method} {c : Code} {H : Heap} {locs : List Loc} {cells slots : Nat} {Q : State → Prop} {f : JFrame} (h : H.size ≤ s.heap.size + cells → W p l e R s m args below meth c H locs cells slots Q f) : W p l e R s m args below meth c H locs cells slots Q f := fun T hT X => h (by rw [← hT]; exact X.heapSize) T hT X
theorem n_fresh {G : o_G} {x n q : Nat} {i : o_I} {r : n_R} {e : va_E} (hD : va_D (n_A x) (n_w G x n i r ++ [(q, e)])) (hlt : q < x + n + 1) : q = x + n := by
  have hl := n_len G x n i r
  have hq : (n_w G x n i r ++ [(q, e)])[n]? = some (q, e) := by
    rw [List.getElem?_append_right (by omega), hl, Nat.sub_self]
    rfl
  have hx : x ≤ q := hD.2 n (q, e) hq
  refine Classical.byContradiction (fun hne => ?_)
  obtain ⟨k, hk⟩ := n_at (G := G) (i := i) (r := r) hx (show q < x + n by omega)
  have hkn : k < n := by
    have := (List.getElem?_eq_some_iff.mp hk).1
    omega
  have := hD.1 k n (q, n_ce (o_kA G) (o_S G) i r q) (q, e) (by rw [List.getElem?_append_left (by omega)]; exact hk) hq rfl
  omega
abbrev n_Cx : Type := Room → State → Array Value → List Frame → (State → Prop) → Prop
def n_Y (G : o_G) (x n0 n1 : Nat) (M : o_M) (p : Program) (R : Room) (s : State) (m : MethodId) (args : Array Value) (meth : Method) (c : Code) : Prop := o_X G M p s m args meth c ∧ meth.name = M.1.name ∧ s.heap.size = x + n0 ∧ (n1 - n0 ≤ R.cells ∧ n_s (o_S G) x n1 - n_s (o_S G) x n0 ≤ R.slots) ∧ n1 ≤ 422 ∧ o_g G ∧ o_L G = List.range' x 422
/-- a state of a walk in a world that grows from n0 cells to at most n1; now there are n -/
def NkC (G : o_G) (x n0 n1 : Nat) (M : o_M) (C : n_Cx) (pc : Nat) (lv : List (Option Value)) (st : List Value) (n : Nat) (i : o_I) (r : n_R) : Prop :=
  ∀ (p : Program) (e : Env) (R : Room) (s : State) (m : MethodId) (args : Array Value) (below : List Frame) (meth : Method) (c : Code) (Q : State → Prop), C R s args below Q → n_Y G x n0 n1 M p R s m args meth c → n0 ≤ n → n ≤ n1 → ∀ (H : Heap) (locs : List Loc) (ls : Array Slot), o_lc ls M.2.2.1 lv → n_W G x n i r H → va_S (n_A x) s.heap H locs →
    W p G.1 e R s m args below meth c H locs (n - n0) (n_s (o_S G) x n - n_s (o_S G) x n0) Q (F0 m pc ls st)
/-- what a constructor leaves -/
abbrev n_P : Type := o_I → n_R → Prop
def n_rm (G : o_G) (x d n0 n1 : Nat) : Room := { frames := d, cells := n1 - n0, slots := n_s (o_S G) x n1 - n_s (o_S G) x n0, locals := 34 * d }
def n_Pc (G : o_G) (x n0 : Nat) (as : List Value) (i : o_I) (r : n_R) : Array Value → State → Prop := va_Pc as (fun U => U.heap.size = x + n0 ∧ n_W G x n0 i r U.heap ∧ o_K G U)
def n_Q (G : o_G) (x n1 : Nat) (P : n_P) : Array Value → State → Outcome → State → Prop := fun _ st oc t => (∃ (i : o_I) (r : n_R), oc = .returned none ∧ P i r ∧ n_W G x n1 i r t.heap) ∧ va_F (n_A x) st t
def NSp (G : o_G) (x d n0 n1 : Nat) (M : o_M) (as : List Value) (P : n_P) (i : o_I) (r : n_R) : Prop := o_g G → o_L G = List.range' x 422 → n1 ≤ 422 → Met G.1 M.1 (o_ws M) (n_rm G x d n0 n1) (n_Pc G x n0 as i r) (n_Q G x n1 P) (n1 - n0) (n_s (o_S G) x n1 - n_s (o_S G) x n0) (n_A x)
def n_c (G : o_G) (x d n0 n1 : Nat) (P : n_P) : n_Cx := fun R s args below Q => R = n_rm G x d n0 n1 ∧ Q = MQ below (n_Q G x n1 P) args s (n1 - n0) (n_s (o_S G) x n1 - n_s (o_S G) x n0) (n_A x)
theorem nsp_of {G : o_G} {x d n0 n1 : Nat} {M : o_M} {as : List Value} {P : n_P} {i : o_I} {r : n_R} (n : Nat) (hy : plainName M.1.cls = true) (hn : as.length ≤ M.2.2.1) (ha : as.all (fun v => v.category == 1) = true) (h01 : n0 ≤ n1) (h : NkC G x n0 n1 M (n_c G x d n0 n1 P) 0 (as.map some ++ List.replicate n none) [] n0 i r) : NSp G x d n0 n1 M as P i r := by
  intro g hL h422
  refine Met.ofW (cc := M.2.1) (maxL := M.2.2.1) (ret := M.2.2.2) hy rfl ?_
  intro p e s m args below meth c s₁ B hml hv
  obtain ⟨rfl, hsz, hW, hK⟩ := hv
  have hts := atoms_spec (ws := o_ws M) B.pre
  have ha : ∀ v ∈ as, v.category = 1 := fun v hv => by simpa using List.all_eq_true.mp ha v hv
  have hsl : ∀ (l : List Value), (∀ v ∈ l, v.category = 1) → lg_sl l = l.map Slot.val := by
    intro l
    induction l with
    | nil => intro _; rfl
    | cons a l ih =>
      intro hc
      have h1 : a.category = 1 := hc a List.mem_cons_self
      show (if a.category = 2 then _ else _) ++ lg_sl l = _
      rw [if_neg (by omega), ih (fun v hv => hc v (List.mem_cons_of_mem _ hv))]
      rfl
  have hlen : (lg_sl as).length ≤ M.2.2.1 := by rw [hsl as ha, List.length_map]; exact hn
  have hh := lv_entry as (n := M.2.2.1) hlen
  rw [lg_entry_eq]
  have hlc : o_lc ((lg_sl as ++ List.replicate (M.2.2.1 - (lg_sl as).length) Slot.unset).toArray) M.2.2.1 (as.map some ++ List.replicate n none) := by
    refine ⟨hh.1, hh.2.1, fun k v hk => ?_⟩
    have hk2 : as[k]? = some v := by
      by_cases hkl : k < as.length
      · rw [List.getElem?_append_left (by rw [List.length_map]; exact hkl), List.getElem?_map] at hk
        cases hb : as[k]? with
        | none => rw [hb] at hk; cases hk
        | some b => rw [hb] at hk; simpa using hk
      · rw [List.getElem?_append_right (by rw [List.length_map]; omega), List.getElem?_replicate] at hk
        split at hk <;> simp at hk
    have hkl : k < as.length := (List.getElem?_eq_some_iff.mp hk2).1
    refine ⟨ha v (List.mem_of_getElem? hk2), ?_⟩
    rw [List.getElem?_toArray, List.getElem?_append_left (by rw [hsl as ha, List.length_map]; exact hkl), hsl as ha, List.getElem?_map, hk2]
    rfl
  have := h p e (n_rm G x d n0 n1) s m as.toArray below meth c _ ⟨rfl, rfl⟩ ⟨⟨B.exec, B.bytes, hml, B.returns, B.notSynchronized, findClass_of_methodNamed B.named, fun w hw => hts w (List.mem_cons_of_mem _ hw), hK⟩, (name_of_methodNamed B.named B.method).1, hsz, ⟨Nat.le_refl _, Nat.le_refl _⟩, h422, g, hL⟩ (Nat.le_refl _) h01 s.heap [] _ hlc hW va_S.rf
  rw [Nat.sub_self, Nat.sub_self] at this
  exact this

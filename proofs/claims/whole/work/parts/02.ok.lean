/-! THE LAYER. One world of cells whose shapes stay: ints and references by (address, place). 'Ok' is a state of a method's walk, 'Sp' a method's contract at one start; a row an instruction. -/
abbrev o_I : Type := Nat → Nat → Int32
abbrev o_R : Type := Nat → Nat → Nat
/-- a method: its name, its code, how many locals, what it answers -/
abbrev o_M : Type := MethodName × ByteArray × Nat × Option FieldType
/-- launch; class numbers and slots; array classes by kind; addresses; shapes; what else stays; where constants lie -/
abbrev o_G : Type := Launch × va_G × (Nat → ClassId) × List Nat × (Nat → Nat × Nat) × (State → Prop) × (Nat → Nat)
abbrev o_P : Type := Option Value → o_I → o_R → Prop
def o_up (i : o_I) (a k : Nat) (x : Int32) : o_I := fun b j => if b = a ∧ j = k then x else i b j
def o_upr (r : o_R) (a k : Nat) (x : Nat) : o_R := fun b j => if b = a ∧ j = k then x else r b j
theorem o_up_s {i : o_I} {a k : Nat} {x : Int32} : o_up i a k x a k = x := by simp [o_up]
theorem o_up_a {i : o_I} {a k b j : Nat} {x : Int32} (h : b ≠ a) : o_up i a k x b j = i b j := by simp [o_up, h]
theorem o_up_k {i : o_I} {a k b j : Nat} {x : Int32} (h : j ≠ k) : o_up i a k x b j = i b j := by simp [o_up, h]
theorem o_upr_s {r : o_R} {a k x : Nat} : o_upr r a k x a k = x := by simp [o_upr]
theorem o_upr_a {r : o_R} {a k b j x : Nat} (h : b ≠ a) : o_upr r a k x b j = r b j := by simp [o_upr, h]
theorem o_upr_k {r : o_R} {a k b j x : Nat} (h : j ≠ k) : o_upr r a k x b j = r b j := by simp [o_upr, h]
-- classes by their numbers
def o_C (ci : Nat) : vw_C := (vwCl[ci]?).getD ("", fun _ => ("", "", "", false), 0)
/-- a value of a field -/
def o_v (i : o_I) (r : o_R) (a ci k : Nat) : Value := if o_rf ci k = true then .ref (r a k) else .int (i a k)
def o_fs (i : o_I) (r : o_R) (a ci : Nat) : List Value := (List.range (o_C ci).2.2).map (o_v i r a ci)
/-- a cell: kinds are 0 (an object; its class), 1 int[], 2 char[], from 3 on arrays of references -/
def o_ce (kA : Nat → ClassId) (S : Nat → Nat × Nat) (i : o_I) (r : o_R) (a : Nat) : va_E := match (S a).1 with
  | 0 => .inr ((S a).2, o_fs i r a (S a).2)
  | 1 => .inl (kA 1, (S a).2, .inl (i a))
  | 2 => .inl (kA 2, (S a).2, .inl (i a))
  | k + 3 => .inl (kA (k + 3), (S a).2, .inr (.inr (.inr (.inr (fun j => some (r a j))))))
def o_L (G : o_G) : List Nat := G.2.2.2.1
def o_S (G : o_G) : Nat → Nat × Nat := G.2.2.2.2.1
def o_E (G : o_G) : State → Prop := G.2.2.2.2.2.1
def o_ad (G : o_G) : Nat → Nat := G.2.2.2.2.2.2
def o_kA (G : o_G) : Nat → ClassId := G.2.2.1
def o_A (G : o_G) : Nat → Prop := fun q => q ∈ o_L G
def o_w (G : o_G) (i : o_I) (r : o_R) : va_W := va_pl (o_L G) (o_ce (o_kA G) (o_S G) i r)
def o_W (G : o_G) (i : o_I) (r : o_R) (H : Heap) : Prop := va_P G.2.1 vwCl (o_w G i r) H
def o_tys (kA : Nat → ClassId) : List (ClassId × FieldType) := [(kA 1, .int), (kA 2, .char), (kA 3, .array .int), (kA 4, .object "ReadCaller$Read"), (kA 5, .object "ReadCaller$Site")]
def o_K (G : o_G) (U : State) : Prop := va_K G.2.1 vwCl (o_tys (o_kA G)) U ∧ o_E G U
def o_g (G : o_G) : Prop := (o_L G).Nodup ∧ ∀ s U : State, o_E G s → s.WarmedH U.vm → s.heap.size ≤ U.heap.size → (∀ a : Nat, a < s.heap.size → a ∉ o_L G → U.heap[a]? = s.heap[a]?) → o_E G U
/-- an object of class ci; an array of kind k -/
def o_O (G : o_G) (a ci : Nat) : Prop := a ∈ o_L G ∧ o_S G a = (0, ci)
def o_Y (G : o_G) (a k : Nat) : Prop := a ∈ o_L G ∧ (o_S G a).1 = k
def o_len (G : o_G) (a : Nat) : Nat := (o_S G a).2
-- words
def o_wt : List Cond := lw_tbl.filter goodWord
theorem o_in {w : Cond} (k : Nat) (h : tables_1[k]? = some w) (hg : goodWord w = true) : w ∈ o_wt := List.mem_filter.mpr ⟨List.mem_append_right _ (List.mem_of_getElem? h), hg⟩
theorem o_inS {w : Cond} (k : Nat) (h : (k2_sels lw_privs)[k]? = some w) (hg : goodWord w = true) : w ∈ o_wt := List.mem_filter.mpr ⟨List.mem_append_left _ (List.mem_of_getElem? h), hg⟩
def o_cd (M : o_M) : Cond := .code M.1 M.2.1 M.2.2.1 M.2.2.2
def o_ws (M : o_M) : List Cond := o_cd M :: o_wt
theorem o_good {N : o_M} (h : o_cd N ∈ o_wt) : GoodIn o_wt (o_ws N) := by
  intro w hw
  have hg : ∀ x ∈ o_wt, (x.onTables && x.keeps) = true ∨ ∃ ty, x = .arrayClass ty := fun x hx => good_of_word (List.mem_filter.mp hx).2
  rcases List.mem_cons.mp hw with e | hw
  · rw [e]
    exact ⟨h, hg _ h⟩
  · exact ⟨hw, hg _ hw⟩
def o_rm (d : Nat) : Room := { frames := d, cells := 0, slots := 0, locals := 34 * d }
/-- a class's table rows stand among the words -/
def o_ck (ci : Nat) : Prop := vwCl[ci]? = some (o_C ci) ∧ (∀ w ∈ u_ws (o_C ci).1 (o_C ci).2.1 (o_C ci).2.2, w ∈ o_wt) ∧ (∃ ty : Nat → FieldType, ∀ k, k < (o_C ci).2.2 → parseFieldDescriptor ((o_C ci).2.1 k).2.2.1 = some (ty k)) ∧ ∀ a, a < (o_C ci).2.2 → ∀ b, b < (o_C ci).2.2 → a ≠ b → ((o_C ci).2.1 a).2.1 ≠ ((o_C ci).2.1 b).2.1
/-- a field's link: class own, pool place, class number, field number -/
def o_fl (own : String) (idx ci k : Nat) : Prop := Cond.fieldLink own idx ((o_C ci).2.1 k).1 ((o_C ci).2.1 k).2.1 ((o_C ci).2.1 k).2.2.1 ∈ o_wt ∧ k < (o_C ci).2.2 ∧ o_ck ci
-- locals
def o_lc (ls : Array Slot) (nL : Nat) (lv : List (Option Value)) : Prop := ls.size = nL ∧ lv_wf ls ∧ ∀ (k : Nat) (v : Value), lv[k]? = some (some v) → v.category = 1 ∧ ls[k]? = some (.val v)
def o_al (lv : List (Option Value)) : List (Nat × Value) := (List.range lv.length).filterMap (fun k => (lv[k]?.getD none).map (fun v => (k, v)))
theorem o_al_mem {lv : List (Option Value)} {q : Nat × Value} : q ∈ o_al lv ↔ lv[q.1]? = some (some q.2) := by
  obtain ⟨k, v⟩ := q
  simp only [o_al, List.mem_filterMap, List.mem_range, Option.map_eq_some_iff, Prod.mk.injEq]
  constructor
  · rintro ⟨j, hj, u, hu, rfl, rfl⟩
    rw [List.getElem?_eq_getElem hj] at hu ⊢
    simpa using hu
  · intro h
    have hk : k < lv.length := (List.getElem?_eq_some_iff.mp h).1
    exact ⟨k, hk, v, by rw [h]; rfl, rfl, rfl⟩
theorem o_lc.has {ls : Array Slot} {nL : Nat} {lv : List (Option Value)} (h : o_lc ls nL lv) : lv_has ls nL (o_al lv) := ⟨h.1, h.2.1, fun q hq => (h.2.2 q.1 q.2 (o_al_mem.mp hq)).2⟩
theorem o_lc.st {ls : Array Slot} {nL j : Nat} {lv : List (Option Value)} {x : Value} (hx : x.category = 1) (h0 : o_lc ls nL lv) {ls' : Array Slot} (h : lv_has ls' nL ((j, x) :: (o_al lv).filter (fun q => !(q.1 == j) && !(q.1 + 1 == j && q.2.category == 2)))) : o_lc ls' nL (lv.set j (some x)) := by
  refine ⟨h.1, h.2.1, fun k v hk => ?_⟩
  by_cases hkj : k = j
  · subst hkj
    rw [List.getElem?_set] at hk
    simp only [if_true] at hk
    split at hk
    · have e : x = v := by simpa using hk
      subst e
      exact ⟨hx, h.2.2 (k, x) List.mem_cons_self⟩
    · cases hk
  · rw [List.getElem?_set_ne (Ne.symm hkj)] at hk
    obtain ⟨h1, h2⟩ := h0.2.2 k v hk
    refine ⟨h1, h.2.2 (k, v) (List.mem_cons_of_mem _ (List.mem_filter.mpr ⟨o_al_mem.mpr hk, ?_⟩))⟩
    simp [hkj, h1]
theorem o_lc.wk {ls : Array Slot} {nL : Nat} {lv lv' : List (Option Value)} (h : o_lc ls nL lv) (hw : ∀ (k : Nat) (v : Value), lv'[k]? = some (some v) → lv[k]? = some (some v)) : o_lc ls nL lv' := ⟨h.1, h.2.1, fun k v hk => h.2.2 k v (hw k v hk)⟩
-- the judgements
def o_Q (G : o_G) (P : o_P) : Array Value → State → Outcome → State → Prop := fun _ st oc t => (∃ (v : Option Value) (i : o_I) (r : o_R), oc = .returned v ∧ P v i r ∧ o_W G i r t.heap) ∧ va_F (o_A G) st t
def o_Pc (G : o_G) (as : List Value) (i : o_I) (r : o_R) : Array Value → State → Prop := va_Pc as (fun U => o_W G i r U.heap ∧ o_K G U)
/-- a contract at one start: with these arguments and this world the method returns, and P holds of its answer and the world behind it -/
def Sp (G : o_G) (d : Nat) (M : o_M) (as : List Value) (P : o_P) (i : o_I) (r : o_R) : Prop := o_g G → Met G.1 M.1 (o_ws M) (o_rm d) (o_Pc G as i r) (o_Q G P) 0 0 (o_A G)
def SpI (G : o_G) (d : Nat) (M : o_M) (as : List Value) (P : Int32 → o_I → Prop) (i : o_I) (r : o_R) : Prop := Sp G d M as (fun v j q => q = r ∧ ∃ x, v = some (.int x) ∧ P x j) i r
def SpV (G : o_G) (d : Nat) (M : o_M) (as : List Value) (P : o_I → Prop) (i : o_I) (r : o_R) : Prop := Sp G d M as (fun v j q => q = r ∧ v = none ∧ P j) i r
def SpQ (G : o_G) (d : Nat) (M : o_M) (as : List Value) (P : Option Nat → o_I → Prop) (i : o_I) (r : o_R) : Prop := Sp G d M as (fun v j q => q = r ∧ ∃ x, v = some (va_rf x) ∧ P x j) i r
/-- of a method that changes references -/
def SpIr (G : o_G) (d : Nat) (M : o_M) (as : List Value) (P : Int32 → o_I → o_R → Prop) (i : o_I) (r : o_R) : Prop := Sp G d M as (fun v j q => ∃ x, v = some (.int x) ∧ P x j q) i r
def SpVr (G : o_G) (d : Nat) (M : o_M) (as : List Value) (P : o_I → o_R → Prop) (i : o_I) (r : o_R) : Prop := Sp G d M as (fun v j q => v = none ∧ P j q) i r
/-- what a walk rests on -/
def o_X (G : o_G) (M : o_M) (p : Program) (s : State) (m : MethodId) (args : Array Value) (meth : Method) (c : Code) : Prop :=
  p.tables.exec = Jvm.exec ∧ c.code = M.2.1 ∧ c.maxLocals = M.2.2.1 ∧ meth.sig.returnType = M.2.2.2 ∧ meth.locks = false ∧ s.vm.findClass M.1.cls = some m.cls ∧ (∀ w ∈ o_wt, w.before args s = true) ∧ o_K G s
/-- where a walk stands: room, cells and slots so far, the end that is wanted -/
abbrev o_Cx : Type := Room → State → Array Value → List Frame → Nat → Nat → (State → Prop) → Prop
def OkC (G : o_G) (M : o_M) (C : o_Cx) (pc : Nat) (lv : List (Option Value)) (st : List Value) (i : o_I) (r : o_R) : Prop :=
  o_g G → ∀ (p : Program) (e : Env) (R : Room) (s : State) (m : MethodId) (args : Array Value) (below : List Frame) (meth : Method) (c : Code) (cells slots : Nat) (Q : State → Prop), C R s args below cells slots Q → o_X G M p s m args meth c → ∀ (H : Heap) (locs : List Loc) (ls : Array Slot), o_lc ls M.2.2.1 lv → o_W G i r H → va_S (o_A G) s.heap H locs →
    W p G.1 e R s m args below meth c H locs cells slots Q (F0 m pc ls st)
/-- the place of a method's walk -/
def o_c (G : o_G) (d : Nat) (P : o_P) : o_Cx := fun R s args below cells slots Q => R = o_rm d ∧ cells = 0 ∧ slots = 0 ∧ Q = MQ below (o_Q G P) args s 0 0 (o_A G)
abbrev Ok (G : o_G) (d : Nat) (M : o_M) (P : o_P) (pc : Nat) (lv : List (Option Value)) (st : List Value) (i : o_I) (r : o_R) : Prop := OkC G M (o_c G d P) pc lv st i r
/-- room for a call of depth d -/
def o_room (C : o_Cx) (d : Nat) : Prop := ∀ R s args below cells slots Q, C R s args below cells slots Q → d + 1 ≤ R.frames ∧ 34 * (d + 1) ≤ R.locals ∧ cells ≤ R.cells ∧ slots ≤ R.slots
theorem o_rc {G : o_G} {d : Nat} {P : o_P} : o_room (o_c G (d + 1) P) d := by
  rintro R s args below cells slots Q ⟨rfl, rfl, rfl, -⟩
  exact ⟨Nat.le_refl _, Nat.le_refl _, Nat.le_refl _, Nat.le_refl _⟩
/-- a contract out of a walk from the entry -/
theorem sp_of {G : o_G} {d : Nat} {M : o_M} {as : List Value} {P : o_P} {i : o_I} {r : o_R} (n : Nat) (hy : plainName M.1.cls = true) (hn : as.length ≤ M.2.2.1) (ha : as.all (fun v => v.category == 1) = true) (h : Ok G d M P 0 (as.map some ++ List.replicate n none) [] i r) : Sp G d M as P i r := by
  intro g
  refine Met.ofW (cc := M.2.1) (maxL := M.2.2.1) (ret := M.2.2.2) hy rfl ?_
  intro p e s m args below meth c s₁ B hml hv
  obtain ⟨rfl, hW, hK⟩ := hv
  have hts := atoms_spec (ws := o_ws M) B.pre
  have ha : ∀ v ∈ as, v.category = 1 := fun v hv => by simpa using List.all_eq_true.mp ha v hv
  have hsl : ∀ (l : List Value), (∀ v ∈ l, v.category = 1) → lg_sl l = l.map Slot.val := by
    intro l
    induction l with
    | nil => intro _; rfl
    | cons a l ih =>
      intro hc
      have h1 : a.category = 1 := hc a List.mem_cons_self
      show (if a.category = 2 then _ else _) ++ lg_sl l = _
      rw [if_neg (by omega), ih (fun v hv => hc v (List.mem_cons_of_mem _ hv))]
      rfl
  have hlen : (lg_sl as).length ≤ M.2.2.1 := by rw [hsl as ha, List.length_map]; exact hn
  have hh := lv_entry as (n := M.2.2.1) hlen
  rw [lg_entry_eq]
  have hlc : o_lc ((lg_sl as ++ List.replicate (M.2.2.1 - (lg_sl as).length) Slot.unset).toArray) M.2.2.1 (as.map some ++ List.replicate n none) := by
    refine ⟨hh.1, hh.2.1, fun k v hk => ?_⟩
    have hk2 : as[k]? = some v := by
      by_cases hkl : k < as.length
      · rw [List.getElem?_append_left (by rw [List.length_map]; exact hkl), List.getElem?_map] at hk
        cases hb : as[k]? with
        | none => rw [hb] at hk; cases hk
        | some b => rw [hb] at hk; simpa using hk
      · rw [List.getElem?_append_right (by rw [List.length_map]; omega), List.getElem?_replicate] at hk
        split at hk <;> simp at hk
    have hkl : k < as.length := (List.getElem?_eq_some_iff.mp hk2).1
    refine ⟨ha v (List.mem_of_getElem? hk2), ?_⟩
    rw [List.getElem?_toArray, List.getElem?_append_left (by rw [hsl as ha, List.length_map]; exact hkl), hsl as ha, List.getElem?_map, hk2]
    rfl
  exact h g p e _ s m as.toArray below meth c 0 0 _ ⟨rfl, rfl, rfl, rfl⟩ ⟨B.exec, B.bytes, hml, B.returns, B.notSynchronized, findClass_of_methodNamed B.named, fun w hw => hts w (List.mem_cons_of_mem _ hw), hK⟩ s.heap [] _ hlc hW va_S.rf
/-- the ends of walks -/
theorem o_ri {post : Int32 → o_I → Prop} {x : Int32} {i : o_I} {r : o_R} (h : post x i) : r = r ∧ ∃ y, (some (.int x) : Option Value) = some (.int y) ∧ post y i := ⟨rfl, x, rfl, h⟩
theorem o_rv {post : o_I → Prop} {i : o_I} {r : o_R} (h : post i) : r = r ∧ (none : Option Value) = none ∧ post i := ⟨rfl, rfl, h⟩
theorem o_rq {post : Option Nat → o_I → Prop} {x : Option Nat} {i : o_I} {r : o_R} (h : post x i) : r = r ∧ ∃ y, (some (va_rf x) : Option Value) = some (va_rf y) ∧ post y i := ⟨rfl, x, rfl, h⟩

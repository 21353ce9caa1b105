/-! THE LAW'S OWN: from the kit's skeleton (lw_P .. lw_At), then its context and its rows -/
def lw_P (b : Addr) (xs : List Int32) (args : Array Value) (s : State) : Prop := args = #[.ref b] ∧ s.IntsAt b xs ∧ xs.length ≤ 2048 ∧ (Jvm.Cond.and given_1 narrow_1).before args s = true
def lw_Q (_ : Array Value) (s : State) (o : Outcome) (t : State) : Prop := o = .returned (some (.int 1)) ∧ Framed s o t [] 600000 7302250
def lw_Z (below : List Frame) (a : Array Value) (s : State) : State → Prop := fun t => ∃ o, t.status = .running ∧ Ended t below o ∧ lw_Q a s o t
/-- the law's own end, with 1 on the stack, nothing written that was there before, its room as the claim has it -/
theorem lw_ret {p : Program} {l : Launch} {e : Env} {s : State} {m : MethodId} {below : List Frame} {meth : Method} {c : Code} {b : Nat} (hx : p.tables.exec = Jvm.exec) (hb : c.code = code) (hr : meth.sig.returnType = ret) (hlocks : meth.locks = false) {pc : Nat} {H : Heap} {ls : Array Slot} (hdg : decode code pc = .ok (.ireturn, 1)) : W p l e room_1 s m #[Value.ref b] below meth c H [] 600000 7302250 (lw_Z below #[Value.ref b] s) (F0 m pc ls [.int 1]) := by
  intro T hT X
  obtain ⟨fs, hret, hrun, hended, hW, hframe⟩ := X.leave (v := some (.int 1)) (hlocks := hlocks) (fun h => by rw [hr] at h; cases h)
  have hmeth' : T.vm.method? m = some meth := X.method'
  refine ⟨T.setFrames fs, ?_, .returned (some (.int 1)), hrun, hended, rfl, ⟨_, rfl⟩, hW, hframe⟩
  jvm_step X.here [X.here.top, hx, hb, hdg, hmeth', hr, ret, narrow_b1]
  (try refine ⟨rfl, ?_⟩); (try refine ⟨rfl, ?_⟩)
  first | (intro acts; rw [hret _ acts rfl rfl rfl]) | rw [hret _ _ rfl rfl rfl]
  exact Steps.refl _
/-- what holds at the law's entry: the machine, the code, the tables' words (any of lw_tbl by 'hts w (by decide +kernel)'), the script of L ints xs at the cell b, what the Statement gives of the start (any of its parts by flat_of_before) -/
def lw_At (p : Program) (s : State) (m : MethodId) (meth : Method) (c : Code) (b L : Nat) (xs : Nat → Int32) : Prop :=
  p.tables.exec = Jvm.exec ∧ c.code = code ∧ meth.sig.returnType = ret ∧ c.maxLocals = 4 ∧ s.vm.findClass R_law = some m.cls ∧ (∀ w ∈ lw_tbl, w.before #[Value.ref b] s = true) ∧ va_X b L xs s s.heap ∧ b < s.heap.size ∧ meth.locks = false ∧ (Jvm.Cond.and given_1 narrow_1).before #[Value.ref b] s = true
abbrev mLaw (nm : String) : o_M := (⟨R_law, nm, ""⟩, code, 4, ret)
def l_C (x b : Nat) : o_Cx := fun R s args below cells slots Q => R = room_1 ∧ args = #[Value.ref b] ∧ s.heap.size = x ∧ (cells ≤ 600000 ∧ slots ≤ 7302250) ∧ Q = lw_Z below #[Value.ref b] s
theorem l_room {x b : Nat} : o_room (l_C x b) 9 := by
  rintro R s args below cells slots Q ⟨rfl, rfl, -, ⟨h1, h2⟩, -⟩
  exact ⟨by decide, by decide, h1, h2⟩
section LAWROWS
variable {l : Launch} {D : va_G} {kA : Nat → ClassId} {x b L : Nat} {xs : Nat → Int32} {ad : Nat → Nat} {M : o_M} {C : o_Cx} {pc : Nat} {lv : List (Option Value)} {st : List Value} {i : o_I} {r : o_R}
theorem ok_sld {k : Nat} (hd : decode M.2.1 pc = .ok (.iaload, 1)) (hb : b < x) (hk : k < L) (h2048 : L ≤ 2048) (kk : OkC (g_G l D kA x b L xs ad) M C (pc + 1) lv (.int (xs k) :: st) i r) : OkC (g_G l D kA x b L xs ad) M C pc lv (.int (nI k) :: .ref b :: st) i r := fun g p e R s m args below meth c cells slots Q hC X H locs ls hl hW hS => by
  have hE : g_E x b L xs ad s := X.2.2.2.2.2.2.2.2
  have hXs := hE.2.2.2.1
  have hbl : b < s.heap.size := by
    obtain ⟨scr, h1, -⟩ := hXs
    exact (Array.getElem?_eq_some_iff.mp h1).1
  have hbA : ¬ o_A (g_G l D kA x b L xs ad) b := fun q => by
    have := (List.mem_range'_1.mp q).1
    omega
  refine va_sld (i := nI k) X.1 X.2.1 hXs hbl hbA hS (vp_in_nI hk (by omega)) hd ?_
  rw [nI_clamp (by omega)]
  exact kk g p e R s m args below meth c cells slots Q hC X H locs ls hl hW hS
theorem ok_slen (hd : decode M.2.1 pc = .ok (.arraylength, 1)) (hb : b < x) (kk : OkC (g_G l D kA x b L xs ad) M C (pc + 1) lv (.int (nI L) :: st) i r) : OkC (g_G l D kA x b L xs ad) M C pc lv (.ref b :: st) i r := fun g p e R s m args below meth c cells slots Q hC X H locs ls hl hW hS => by
  have hE : g_E x b L xs ad s := X.2.2.2.2.2.2.2.2
  have hXs := hE.2.2.2.1
  have hbl : b < s.heap.size := by
    obtain ⟨scr, h1, -⟩ := hXs
    exact (Array.getElem?_eq_some_iff.mp h1).1
  have hbA : ¬ o_A (g_G l D kA x b L xs ad) b := fun q => by
    have := (List.mem_range'_1.mp q).1
    omega
  exact va_slen X.1 X.2.1 hXs hbl hbA hS hd (kk g p e R s m args below meth c cells slots Q hC X H locs ls hl hW hS)
theorem l_end {nm : String} : OkC (g_G l D kA x b L xs ad) (mLaw nm) (l_C x b) 392 lv [.int 1] i r := fun g p e R s m args below meth c cells slots Q hC X H locs ls hl hW hS => by
  obtain ⟨rfl, rfl, hsz, ⟨h1, h2⟩, rfl⟩ := hC
  refine va_forget (fun q hq => ?_) (W.widen h1 h2 (lw_ret X.1 X.2.1 X.2.2.2.1 X.2.2.2.2.1 dL_392))
  have := (List.mem_range'_1.mp (hS.2.2 q hq)).1
  omega
end LAWROWS
theorem lw_O {G : o_G} {x : Nat} {i : o_I} {r : o_R} (h : lw_I G x i r) : o_O G x 0 ∧ o_O G (x + 395) 10 := by
  obtain ⟨sm, dr, hL, hm, -⟩ := h
  exact ⟨hL.1.1, hm.1⟩

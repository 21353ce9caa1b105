/-! CONSTANTS: two tables of whole numbers, four texts; rows for them -/
def o_tb (k j : Nat) : Int32 := if k = 0 then nI (jd_fi j) else nI (jd_se j)
def k_by (t : String) : List Int32 := t.toList.map (fun c => nI c.toNat)
def k_sb : List (List Int32) := [[65, 67, 71, 84, 78], [35, 35, 102, 105, 108, 101, 102, 111, 114, 109, 97, 116, 61, 86, 67, 70, 118, 52, 46, 51, 10, 35, 67, 72, 82, 79, 77, 9, 80, 79, 83, 9, 73, 68, 9, 82, 69, 70, 9, 65, 76, 84, 9, 81, 85, 65, 76, 9, 70, 73, 76, 84, 69, 82, 9, 73, 78, 70, 79, 9, 70, 79, 82, 77, 65, 84, 9, 83, 10], [9, 46, 9], [9, 46, 9, 46, 9, 71, 84, 58, 68, 80, 58, 65, 68, 58, 80, 76, 9]]
def k_sl : List Nat := k_sb.map List.length
def k_com : Int32 := 1
def k_cod : Int32 := 0
/-- what the launch says of the constants; o_ad: 0, 1 the tables, 2 .. 5 the texts, 10 .. 13 their bytes -/
def o_cst (G : o_G) : Prop := ∀ U : State, o_E G U →
  (va_Z "ReadCaller$Judge" "FIRST_OF_PAIR" "[I" (.ref (o_ad G 0)) (o_A G) U U.heap ∧ va_Z "ReadCaller$Judge" "SECOND_OF_PAIR" "[I" (.ref (o_ad G 1)) (o_A G) U U.heap ∧ ∀ k, k < 2 → va_T .int (o_ad G k) 6 (fun j => .int (o_tb k j)) (o_A G) U U.heap) ∧
  vk_S 4 k_sl k_sb (fun i => o_ad G (i + 2)) (fun i => o_ad G (i + 10)) (o_A G) U U.heap ∧
  (vk_R "ReadCaller$Parser" 74 "ACGTN" (o_ad G 2) U ∧ vk_R "ReadCaller$Table" 29 "ACGTN" (o_ad G 2) U ∧ vk_R "ReadCaller$Table" 19 "##fileformat=VCFv4.3\n#CHROM\tPOS\tID\tREF\tALT\tQUAL\tFILTER\tINFO\tFORMAT\tS\n" (o_ad G 3) U ∧ vk_R "ReadCaller$Table" 88 "\t.\t" (o_ad G 4) U ∧ vk_R "ReadCaller$Table" 106 "\t.\t.\tGT:DP:AD:PL\t" (o_ad G 5) U) ∧
  va_Z "java/lang/String" "COMPACT_STRINGS" "Z" (.int k_com) (o_A G) U U.heap ∧ va_Zq "jdk/internal/util/Preconditions" "SIOOBE_FORMATTER" "Ljava/util/function/BiFunction;" (o_A G) U U.heap
section OK2
variable {G : o_G} {M : o_M} {C : o_Cx} {pc : Nat} {lv : List (Option Value)} {st : List Value} {i : o_I} {r : o_R}
theorem ok_gets {idx : Nat} {v : Value} (K n dd : String) (hd : decode M.2.1 pc = .ok (.getstatic idx, 3)) (hz : ∀ U : State, o_E G U → va_Z K n dd v (o_A G) U U.heap) (hw : Cond.fieldLink M.1.cls idx K n dd ∈ o_wt) (kk : OkC G M C (pc + 3) lv (v :: st) i r) : OkC G M C pc lv st i r := fun g p e R s m args below meth c cells slots Q hC X H locs ls hl hW hS => va_gets X.1 X.2.1 (hz s X.2.2.2.2.2.2.2.2) hS X.2.2.2.2.2.1 (X.2.2.2.2.2.2.1 _ hw) (fun _ h => h) hd (kk g p e R s m args below meth c cells slots Q hC X H locs ls hl hW hS)
theorem ok_getq {idx : Nat} (K n dd : String) (hd : decode M.2.1 pc = .ok (.getstatic idx, 3)) (hz : ∀ U : State, o_E G U → va_Zq K n dd (o_A G) U U.heap) (hw : Cond.fieldLink M.1.cls idx K n dd ∈ o_wt) (kk : ∀ w : Value, (w = .null ∨ ∃ t : Nat, w = .ref t) → OkC G M C (pc + 3) lv (w :: st) i r) : OkC G M C pc lv st i r := fun g p e R s m args below meth c cells slots Q hC X H locs ls hl hW hS => by
  rcases hz s X.2.2.2.2.2.2.2.2 with h | ⟨t, h⟩
  · exact va_gets X.1 X.2.1 h hS X.2.2.2.2.2.1 (X.2.2.2.2.2.2.1 _ hw) (fun _ h => h) hd (kk _ (Or.inl rfl) g p e R s m args below meth c cells slots Q hC X H locs ls hl hW hS)
  · exact va_gets X.1 X.2.1 h hS X.2.2.2.2.2.1 (X.2.2.2.2.2.2.1 _ hw) (fun _ h => h) hd (kk _ (Or.inr ⟨t, rfl⟩) g p e R s m args below meth c cells slots Q hC X H locs ls hl hW hS)
theorem ok_ti {t N : Nat} {f : Nat → Int32} {x : Int32} (hd : decode M.2.1 pc = .ok (.iaload, 1)) (hz : ∀ U : State, o_E G U → va_T .int t N (fun j => .int (f j)) (o_A G) U U.heap) (hx : vp_in x N) (kk : OkC G M C (pc + 1) lv (.int (f x.toNatClampNeg) :: st) i r) : OkC G M C pc lv (.int x :: .ref t :: st) i r := fun g p e R s m args below meth c cells slots Q hC X H locs ls hl hW hS => va_ti X.1 X.2.1 (hz s X.2.2.2.2.2.2.2.2) hS hx rfl hd (kk g p e R s m args below meth c cells slots Q hC X H locs ls hl hW hS)
theorem ok_tbl {t N : Nat} {f : Nat → Int32} {x : Int32} (hd : decode M.2.1 pc = .ok (.baload, 1)) (hz : ∀ U : State, o_E G U → va_T .byte t N (fun j => .int (f j)) (o_A G) U U.heap) (hx : vp_in x N) (kk : OkC G M C (pc + 1) lv (.int (f x.toNatClampNeg) :: st) i r) : OkC G M C pc lv (.int x :: .ref t :: st) i r := fun g p e R s m args below meth c cells slots Q hC X H locs ls hl hW hS => va_tb X.1 X.2.1 (hz s X.2.2.2.2.2.2.2.2) hS hx rfl hd (kk g p e R s m args below meth c cells slots Q hC X H locs ls hl hW hS)
theorem ok_tlen {ty : FieldType} {t N : Nat} {f : Nat → Int32} (hd : decode M.2.1 pc = .ok (.arraylength, 1)) (hz : ∀ U : State, o_E G U → va_T ty t N (fun j => .int (f j)) (o_A G) U U.heap) (kk : OkC G M C (pc + 1) lv (.int (nI N) :: st) i r) : OkC G M C pc lv (.ref t :: st) i r := fun g p e R s m args below meth c cells slots Q hC X H locs ls hl hW hS => va_tlen X.1 X.2.1 (hz s X.2.2.2.2.2.2.2.2) hS rfl hd (kk g p e R s m args below meth c cells slots Q hC X H locs ls hl hW hS)
theorem ok_ldcS {idx q : Nat} (tx : String) (hd : decode M.2.1 pc = .ok (.ldc idx, 2)) (hz : ∀ U : State, o_E G U → vk_R M.1.cls idx tx q U) (kk : OkC G M C (pc + 2) lv (.ref q :: st) i r) : OkC G M C pc lv st i r := fun g p e R s m args below meth c cells slots Q hC X H locs ls hl hW hS => va_ldcS X.1 X.2.1 X.2.2.2.2.2.1 (hz s X.2.2.2.2.2.2.2.2) hd (kk g p e R s m args below meth c cells slots Q hC X H locs ls hl hW hS)
theorem ok_sget {idx q : Nat} {v : Value} (o n dd : String) (hd : decode M.2.1 pc = .ok (.getfield idx, 3)) (hz : ∀ U : State, o_E G U → va_OF o n dd v q (o_A G) U U.heap) (hw : Cond.fieldLink M.1.cls idx o n dd ∈ o_wt) (kk : OkC G M C (pc + 3) lv (v :: st) i r) : OkC G M C pc lv (.ref q :: st) i r := fun g p e R s m args below meth c cells slots Q hC X H locs ls hl hW hS => vk_getf X.1 X.2.1 (hz s X.2.2.2.2.2.2.2.2) hS X.2.2.2.2.2.1 (X.2.2.2.2.2.2.1 _ hw) (fun _ h => h) hd (kk g p e R s m args below meth c cells slots Q hC X H locs ls hl hW hS)
theorem ok_i2b {x : Int32} (hd : decode M.2.1 pc = .ok (.i2b, 1)) (kk : OkC G M C (pc + 1) lv (.int (x.toInt8.toInt32) :: st) i r) : OkC G M C pc lv (.int x :: st) i r := fun g p e R s m args below meth c cells slots Q hC X H locs ls hl hW hS => lv_i2b X.1 X.2.1 hd rfl (kk g p e R s m args below meth c cells slots Q hC X H locs ls hl hW hS)
theorem ok_ishl {x y : Int32} (hd : decode M.2.1 pc = .ok (.ishl, 1)) (kk : OkC G M C (pc + 1) lv (.int (x <<< (y &&& 31)) :: st) i r) : OkC G M C pc lv (.int y :: .int x :: st) i r := fun g p e R s m args below meth c cells slots Q hC X H locs ls hl hW hS => lv_ishl X.1 X.2.1 hd (kk g p e R s m args below meth c cells slots Q hC X H locs ls hl hW hS)
-- a text's facts
theorem o_cst.val {k : Nat} (h : o_cst G) (h2 : 2 ≤ k) (h5 : k ≤ 5) : ∀ U : State, o_E G U → va_OF "java/lang/String" "value" "[B" (.ref (o_ad G (k + 8))) (o_ad G k) (o_A G) U U.heap := fun U hU => by
  have := ((h U hU).2.1.1 (k - 2) (by omega)).2.2.1
  dsimp only at this
  rw [show k - 2 + 10 = k + 8 by omega, show k - 2 + 2 = k by omega] at this
  exact this
theorem o_cst.cod {k : Nat} (h : o_cst G) (h2 : 2 ≤ k) (h5 : k ≤ 5) : ∀ U : State, o_E G U → va_OF "java/lang/String" "coder" "B" (.int k_cod) (o_ad G k) (o_A G) U U.heap := fun U hU => by
  have := ((h U hU).2.1.1 (k - 2) (by omega)).2.1
  dsimp only at this
  rw [show k - 2 + 2 = k by omega] at this
  exact this
theorem o_cst.byt {k : Nat} (h : o_cst G) (h2 : 10 ≤ k) (h5 : k ≤ 13) : ∀ U : State, o_E G U → va_T .byte (o_ad G k) (k_sl.getD (k - 10) 0) (fun j => .int ((k_sb.getD (k - 10) []).getD j 0)) (o_A G) U U.heap := fun U hU => by
  have := ((h U hU).2.1.1 (k - 10) (by omega)).2.2.2
  dsimp only at this
  rw [show k - 10 + 10 = k by omega] at this
  exact this
theorem o_cst.tab {k : Nat} (h : o_cst G) (h2 : k < 2) : ∀ U : State, o_E G U → va_T .int (o_ad G k) 6 (fun j => .int (o_tb k j)) (o_A G) U U.heap := fun U hU => (h U hU).1.2.2 k h2
/-- a call of a method of a text -/
def o_cT (own : String) (idx : Nat) (N : o_M) (n : Nat) : Prop := o_cd N ∈ o_wt ∧ Cond.methodLink own idx N.1 ∈ o_wt ∧ Cond.initialized N.1.cls ∈ o_wt ∧ Cond.instanceMethod N.1 ∈ o_wt ∧ Cond.selects N.1.cls N.1 N.1 ∈ o_wt ∧ N.2.2.1 ≤ 15 ∧ (N.1.cls ≠ "java/lang/invoke/MethodHandle" ∧ N.1.cls ≠ "java/lang/invoke/VarHandle" ∧ (parseMethodDescriptor N.1.desc).map (fun d => d.parameters.length) = some n) ∧ N.1.cls = "java/lang/String"
theorem ok_cTi {d idx k : Nat} (hR : o_room C d) (hk : o_cst G) (h2 : 2 ≤ k) (h5 : k ≤ 5) {N : o_M} {n : Nat} {P1 : Int32 → o_I → Prop} {st0 rest : List Value} (as : List Value) (hd : decode M.2.1 pc = .ok (.invokevirtual idx, 3)) (hc : o_cT M.1.cls idx N n) (hn : as.length = n) (hst : st0 = as.reverse ++ .ref (o_ad G k) :: rest) (hs : (rest.map fun v => v.category).sum ≤ 8) (h : SpI G d N (.ref (o_ad G k) :: as) P1 i r) (kk : ∀ x j, P1 x j → OkC G M C (pc + 3) lv (.int x :: rest) j r) : OkC G M C pc lv st0 i r := fun g p e R s m args below meth c cells slots Q hC X H locs ls hl hW hS => by
  obtain ⟨c1, c2, c3, c4, c5, c6, c7, c8⟩ := hc
  have ht := X.2.2.2.2.2.2.1
  obtain ⟨q1, q2, q3, q4⟩ := hR _ _ _ _ _ _ _ hC
  have hrv := vk_recv (hk s X.2.2.2.2.2.2.2.2).2.1 (i := k - 2) (by omega) hS
  rw [← c8] at hrv
  have hrv : ∃ cell : Cell, H[o_ad G k]? = some cell ∧ cell.vm.isStatics = false ∧ s.vm.findClass N.1.cls = some cell.cls := by
    obtain ⟨cell, a1, a2, a3⟩ := hrv
    have a1 : H[o_ad G (k - 2 + 2)]? = some cell := a1
    rw [show k - 2 + 2 = k by omega] at a1
    exact ⟨cell, a1, a2, a3⟩
  exact o_back (P1 := fun v j q => q = r ∧ ∃ x, v = some (.int x) ∧ P1 x j) g hC X hl hS (va_runV (As := as) (rest := rest) (n := n) (own := M.1.cls) (C := N.1.cls) (index := idx) (bytes := N.2.1) (maxL := N.2.2.1) (ret := N.2.2.2) ⟨X.1, X.2.1, X.2.2.1, X.2.2.2.2.2.1, ht⟩ (h g) ⟨callB_of n ht (o_good c1) rfl rfl rfl (ht _ c3) (ht _ c2) c7 ⟨by show d + 1 ≤ _; omega, by show 8 + (N.2.2.1 + 11) + 34 * d ≤ _; omega⟩, ht _ c4, ht _ c5⟩ ⟨o_fb g, hrv, fun U hU hw => ⟨rfl, by rw [hU]; exact hW, o_Kn g X.2.2.2.2.2.2.2 hS hU hw⟩⟩ rfl hn hl.1 hst (lv_room hs) hd ⟨q3, q4⟩) (fun v j q hv => by obtain ⟨rfl, x, rfl, hx⟩ := hv; exact kk x j hx)
end OK2

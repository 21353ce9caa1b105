/-! THE START: what the tables and the launch give, and that it stays -/
theorem n_idx {F : Class → Bool} {u U : Vm} (h : u.Alike U) (hF : ∀ vm : Vm, (vm.bare.classes.findIdx? F) = vm.classes.findIdx? F) : U.classes.findIdx? F = u.classes.findIdx? F := by
  rw [← hF U, ← hF u]
  first | rw [h.bare_eq] | rw [← h.bare_eq]
theorem n_AO1.moved {u U : State} (hvm : u.vm.Alike U.vm) (h : n_AO1 u) : n_AO1 U := by
  unfold n_AO1 Cond.before Cond.holds at h ⊢
  simp only [Cond.value, beq_iff_eq] at h ⊢
  cases hc : u.vm.findClass (FieldType.array .int).toString with
  | none => simp [hc] at h
  | some comp =>
    simp only [hc, Option.bind_some, Option.bind_eq_some_iff, Option.map_eq_some_iff] at h
    obtain ⟨c, hi, k, hk, hb⟩ := h
    obtain ⟨k', hk', he⟩ := hvm.2.2 _ _ hk
    have f1 : U.vm.findClass (FieldType.array .int).toString = some comp := by rw [hvm.findClass]; exact hc
    rw [f1, Option.bind_some, Option.bind_eq_some_iff]
    refine ⟨c, (n_idx hvm (fun vm => by simp only [Vm.bare, Array.findIdx?_map]; rfl)).trans hi, ?_⟩
    rw [hk', Option.map_some, he]
    rw [hvm.findClass]
    exact congrArg some hb
theorem k_A {s : State} {args : Array Value} {ty : FieldType} (h : (Cond.arrayClass ty).before args s = true) : ∃ cA, ArrOfT s cA ty ∧ s.vm.findClass ("[" ++ ty.toString) = some cA := by
  obtain ⟨c, k, comp, h1, h2, h3⟩ := Cond.arrayClass_spec h
  exact ⟨c, fun n z => ⟨(fun k h => by cases h), k, h2, comp, h3⟩, h1⟩
theorem k_O {s : State} {K : String} (h : va_AO K s) : ∃ cA, ArrOfT s cA (.object K) ∧ va_RA s cA (.object K) := by
  obtain ⟨comp, c, k, h1, -, h3, h4, h5⟩ := Cond.arrayOver_spec h
  exact ⟨c, fun n z => ⟨(fun k h => by cases h), k, h3, comp, h4⟩, k, comp, h3, h4, h1, h5⟩
theorem k_AA {s : State} (h : n_AO1 s) : ∃ cA, ArrOfT s cA (.array .int) ∧ s.vm.findClass ("[" ++ (FieldType.array .int).toString) = some cA := by
  obtain ⟨comp, c, k, h1, h2, h3, h4⟩ := Cond.arrayOver_specA h
  exact ⟨c, fun n z => ⟨(fun k h => by cases h), k, h2, comp, h3⟩, h4⟩
/-- what else stays: constants, classes of arrays, links between nest mates, the script of L ints xs at b -/
def g_E (x b L : Nat) (xs : Nat → Int32) (ad : Nat → Nat) (U : State) : Prop :=
  ((va_Z "ReadCaller$Judge" "FIRST_OF_PAIR" "[I" (.ref (ad 0)) (n_A x) U U.heap ∧ va_Z "ReadCaller$Judge" "SECOND_OF_PAIR" "[I" (.ref (ad 1)) (n_A x) U U.heap ∧ ∀ k, k < 2 → va_T .int (ad k) 6 (fun j => .int (o_tb k j)) (n_A x) U U.heap) ∧
  vk_S 4 k_sl k_sb (fun i => ad (i + 2)) (fun i => ad (i + 10)) (n_A x) U U.heap ∧
  (vk_R "ReadCaller$Parser" 74 "ACGTN" (ad 2) U ∧ vk_R "ReadCaller$Table" 29 "ACGTN" (ad 2) U ∧ vk_R "ReadCaller$Table" 19 "##fileformat=VCFv4.3\n#CHROM\tPOS\tID\tREF\tALT\tQUAL\tFILTER\tINFO\tFORMAT\tS\n" (ad 3) U ∧ vk_R "ReadCaller$Table" 88 "\t.\t" (ad 4) U ∧ vk_R "ReadCaller$Table" 106 "\t.\t.\tGT:DP:AD:PL\t" (ad 5) U) ∧
  va_Z "java/lang/String" "COMPACT_STRINGS" "Z" (.int k_com) (n_A x) U U.heap ∧ va_Zq "jdk/internal/util/Preconditions" "SIOOBE_FORMATTER" "Ljava/util/function/BiFunction;" (n_A x) U U.heap) ∧
  (n_AO1 U ∧ va_AO "ReadCaller$Site" U ∧ va_AO "ReadCaller$Read" U) ∧
  (va_Nw (.methodLinkNest RX0 35 yX1_init "ReadCaller") U ∧ va_Nw (.methodLinkNest RX0 49 yX2_init "ReadCaller") U ∧ va_Nw (.methodLinkNest RX0 56 yX8_init "ReadCaller") U ∧ va_Nw (.methodLinkNest RX4 20 yX7_init "ReadCaller") U ∧ va_Nw (.methodLinkNest RX6 35 yX5_init "ReadCaller") U) ∧
  va_X b L xs U U.heap ∧ b < x
theorem g_E_keep {x b L : Nat} {xs : Nat → Int32} {ad : Nat → Nat} {s U : State} (h : g_E x b L xs ad s) (hW : s.WarmedH U.vm) (hk : ∀ a : Nat, a < s.heap.size → a < x → U.heap[a]? = s.heap[a]?) : g_E x b L xs ad U := by
  obtain ⟨⟨⟨z1, z2, z3⟩, z4, ⟨r1, r2, r3, r4, r5⟩, z5, z6⟩, ⟨a1, a2, a3⟩, ⟨n1, n2, n3, n4, n5⟩, hX, hb⟩ := h
  have kq : ∀ a : Nat, a < s.heap.size → ¬ n_A x a → U.heap[a]? = s.heap[a]? := fun a h1 h2 => hk a h1 (Nat.not_le.mp h2)
  refine ⟨⟨⟨(va_Z.moved hW.alike z1).kept kq, (va_Z.moved hW.alike z2).kept kq, fun k hk => (va_T.moved hW.alike (z3 k hk)).kept kq⟩, (vk_S.moved hW.alike z4).kept kq, ⟨r1.warm hW, r2.warm hW, r3.warm hW, r4.warm hW, r5.warm hW⟩, (va_Z.moved hW.alike z5).kept kq, (va_Zq.moved hW.alike z6).kept kq⟩, ⟨a1.moved hW.alike, a2.moved hW.alike, a3.moved hW.alike⟩, ⟨va_Nw.warmM hW n1, va_Nw.warmM hW n2, va_Nw.warmM hW n3, va_Nw.warmM hW n4, va_Nw.warmM hW n5⟩, ?_, hb⟩
  have hlt : b < s.heap.size := by
    obtain ⟨scr, h1, -⟩ := hX
    exact (Array.getElem?_eq_some_iff.mp h1).1
  exact (va_X.moved hW.alike hX).kept (hk b hlt hb)
def g_G (l : Launch) (D : va_G) (kA : Nat → ClassId) (x b L : Nat) (xs : Nat → Int32) (ad : Nat → Nat) : o_G := (l, D, kA, List.range' x 422, n_S x, g_E x b L xs ad, ad)
theorem g_ok {l : Launch} {D : va_G} {kA : Nat → ClassId} {x b L : Nat} {xs : Nat → Int32} {ad : Nat → Nat} : o_g (g_G l D kA x b L xs ad) := by
  refine ⟨List.nodup_range', fun s U h hW hsz hk => g_E_keep h hW (fun a h1 h2 => hk a h1 (fun q => ?_))⟩
  have := (List.mem_range'_1.mp q).1
  omega
theorem g_cst {l : Launch} {D : va_G} {kA : Nat → ClassId} {x b L : Nat} {xs : Nat → Int32} {ad : Nat → Nat} : o_cst (g_G l D kA x b L xs ad) := by
  intro U h
  obtain ⟨⟨⟨z1, z2, z3⟩, z4, z5, z6, z7⟩, -⟩ := h
  have nar : ∀ q, o_A (g_G l D kA x b L xs ad) q → n_A x q := fun q h => (List.mem_range'_1.mp h).1
  exact ⟨⟨z1.narrow nar, z2.narrow nar, fun k hk => (z3 k hk).narrow nar⟩, z4.narrow nar, z5, z6.narrow nar, z7.narrow nar⟩
/-- the conditions of the launch -/
def k_cs : List Cond := flatC (Jvm.Cond.and given_1 narrow_1)
def k_tm (i : Nat) : Term := [Term.string "ReadCaller$Table" 29, Term.string "ReadCaller$Table" 19, Term.string "ReadCaller$Table" 88, Term.string "ReadCaller$Table" 106].getD i (Term.string "ReadCaller$Table" 106)
theorem k_ex : ∀ i, i < 4 → Cond.exactly (k_tm i) "java/lang/String" ∈ k_cs := by decide +kernel
theorem k_co : ∀ i, i < 4 → Cond.eq (.field (k_tm i) "java/lang/String" "coder" "B") (.int 0) ∈ k_cs := by decide +kernel
theorem k_ar : ∀ i, i < 4 → Cond.arrayOf (.field (k_tm i) "java/lang/String" "value" "[B") .byte ∈ k_cs := by decide +kernel
theorem k_le : ∀ i, i < 4 → Cond.eq (.length (.field (k_tm i) "java/lang/String" "value" "[B")) (.int (Int32.ofNat (k_sl.getD i 0))) ∈ k_cs := by decide +kernel
theorem k_el : ∀ i, i < 4 → ∀ j, j < k_sl.getD i 0 → Cond.eq (.elem (.field (k_tm i) "java/lang/String" "value" "[B") (.int (Int32.ofNat j))) (.int ((k_sb.getD i []).getD j 0)) ∈ k_cs := by decide +kernel
theorem k_ne : ∀ i, i < 4 → ∀ j, j < 4 → i ≠ j → Cond.not (Cond.eq (k_tm i) (k_tm j)) ∈ k_cs ∨ Cond.not (Cond.eq (k_tm j) (k_tm i)) ∈ k_cs := by decide +kernel
theorem k_sn : ∀ i, i < 4 → k_sl.getD i 0 < 2 ^ 31 := by decide +kernel
theorem k_t0 : ∀ j, j < 6 → Cond.eq (.elem (.static "ReadCaller$Judge" "FIRST_OF_PAIR" "[I") (.int (Int32.ofNat j))) (.int (o_tb 0 j)) ∈ k_cs := by decide +kernel
theorem k_t1 : ∀ j, j < 6 → Cond.eq (.elem (.static "ReadCaller$Judge" "SECOND_OF_PAIR" "[I") (.int (Int32.ofNat j))) (.int (o_tb 1 j)) ∈ k_cs := by decide +kernel
theorem k_in {w : Cond} (k : Nat) (h : tables_1[k]? = some w) : w ∈ lw_tbl := List.mem_append_right _ (List.mem_of_getElem? h)
set_option maxHeartbeats 4000000 in
theorem g_start {s : State} {args : Array Value} {b L : Nat} {xs : Nat → Int32} (ht : ∀ w ∈ lw_tbl, w.before args s = true) (hX : va_X b L xs s s.heap) (hb : b < s.heap.size) (hg : (Jvm.Cond.and given_1 narrow_1).before args s = true) : ∃ ad : Nat → Nat, g_E s.heap.size b L xs ad s := by
  have hc : ∀ c ∈ k_cs, c.before args s = true := flat_of_before _ hg
  have hA : ∀ a : Nat, a < s.heap.size → ¬ n_A s.heap.size a := fun a h1 h2 => by
    have h2 : s.heap.size ≤ a := h2
    omega
  obtain ⟨t0, e0, T0⟩ := va_Tof (tm := .static "ReadCaller$Judge" "FIRST_OF_PAIR" "[I") (ty := .int) (N := 6) (f := fun j => .int (o_tb 0 j)) (A := n_A s.heap.size) (by decide) (hc _ (by decide +kernel)) (va_eqt (hc _ (by decide +kernel))) (fun j hj => va_eqt (hc _ (k_t0 j hj))) hA
  obtain ⟨t1, e1, T1⟩ := va_Tof (tm := .static "ReadCaller$Judge" "SECOND_OF_PAIR" "[I") (ty := .int) (N := 6) (f := fun j => .int (o_tb 1 j)) (A := n_A s.heap.size) (by decide) (hc _ (by decide +kernel)) (va_eqt (hc _ (by decide +kernel))) (fun j hj => va_eqt (hc _ (k_t1 j hj))) hA
  obtain ⟨aK, aV, hS, hv⟩ := vk_Sof (args := args) (s := s) (N := 4) (tm := k_tm) (len := k_sl) (byt := k_sb) (A := n_A s.heap.size) k_sn (fun i hi => hc _ (k_ex i hi)) (fun i hi => hc _ (k_co i hi)) (fun i hi => hc _ (k_ar i hi)) (fun i hi => hc _ (k_le i hi)) (fun i hi j hj => hc _ (k_el i hi j hj)) (fun i j hi hj hne => (k_ne i hi j hj hne).elim (fun h => Or.inl (hc _ h)) (fun h => Or.inr (hc _ h))) hA
  have z0 := va_Zof (A := n_A s.heap.size) (ht _ (k_in 136 (by decide +kernel))) (ht (.initialized "ReadCaller$Judge") (by decide +kernel)) e0 hA
  have z1 := va_Zof (A := n_A s.heap.size) (ht _ (k_in 600 (by decide +kernel))) (ht (.initialized "ReadCaller$Judge") (by decide +kernel)) e1 hA
  have z2 : va_Z "java/lang/String" "COMPACT_STRINGS" "Z" (.int k_com) (n_A s.heap.size) s s.heap := va_Zof (A := n_A s.heap.size) (ht _ (k_in 369 (by decide +kernel))) (ht (.initialized "java/lang/String") (by decide +kernel)) (va_eqi (z := 1) (hc _ (by decide +kernel))) hA
  have z3 : va_Zq "jdk/internal/util/Preconditions" "SIOOBE_FORMATTER" "Ljava/util/function/BiFunction;" (n_A s.heap.size) s s.heap := va_Zqof (A := n_A s.heap.size) (ht _ (k_in 412 (by decide +kernel))) (ht (.initialized "jdk/internal/util/Preconditions") (by decide +kernel)) (hc _ (by decide +kernel)) hA
  have v0 : (Term.string "ReadCaller$Table" 29).eval args s none [] s = some (.ref (aK 0)) := hv 0 (by decide)
  have v1 : (Term.string "ReadCaller$Table" 19).eval args s none [] s = some (.ref (aK 1)) := hv 1 (by decide)
  have v2 : (Term.string "ReadCaller$Table" 88).eval args s none [] s = some (.ref (aK 2)) := hv 2 (by decide)
  have v3 : (Term.string "ReadCaller$Table" 106).eval args s none [] s = some (.ref (aK 3)) := hv 3 (by decide)
  have v4 : (Term.string "ReadCaller$Parser" 74).eval args s none [] s = some (.ref (aK 0)) := va_eqv (hc (Cond.eq (Term.string "ReadCaller$Parser" 74) (Term.string "ReadCaller$Table" 29)) (by decide +kernel)) v0
  refine ⟨fun k => if k = 0 then t0 else if k = 1 then t1 else if k < 10 then aK (k - 2) else aV (k - 10), ⟨⟨z0, z1, fun k hk => ?_⟩, ?_, ⟨vk_R.of (ht _ (k_in 355 (by decide +kernel))) v4, vk_R.of (ht _ (k_in 625 (by decide +kernel))) v0, vk_R.of (ht _ (k_in 549 (by decide +kernel))) v1, vk_R.of (ht _ (k_in 624 (by decide +kernel))) v2, vk_R.of (ht _ (k_in 639 (by decide +kernel))) v3⟩, z2, z3⟩, ⟨?_, va_AO.of (ht _ (k_in 100 (by decide +kernel))), va_AO.of (ht _ (k_in 186 (by decide +kernel)))⟩, ⟨va_Nw.of rfl (ht _ (k_in 61 (by decide +kernel))), va_Nw.of rfl (ht _ (k_in 131 (by decide +kernel))), va_Nw.of rfl (ht _ (k_in 166 (by decide +kernel))), va_Nw.of rfl (ht _ (k_in 102 (by decide +kernel))), va_Nw.of rfl (ht _ (k_in 188 (by decide +kernel)))⟩, hX, hb⟩
  · rcases (show k = 0 ∨ k = 1 by omega) with rfl | rfl
    · exact T0
    · exact T1
  · refine ⟨fun i hi => ?_, fun i j hi hj e => ?_⟩
    · have e1 : (if i + 2 = 0 then t0 else if i + 2 = 1 then t1 else if i + 2 < 10 then aK (i + 2 - 2) else aV (i + 2 - 10)) = aK i := by
        rw [if_neg (by omega), if_neg (by omega), if_pos (by omega), Nat.add_sub_cancel]
      have e2 : (if i + 10 = 0 then t0 else if i + 10 = 1 then t1 else if i + 10 < 10 then aK (i + 10 - 2) else aV (i + 10 - 10)) = aV i := by
        rw [if_neg (by omega), if_neg (by omega), if_neg (by omega), Nat.add_sub_cancel]
      simp only [e1, e2]
      exact hS.1 i hi
    · have ee : ∀ i, i < 4 → (if i + 2 = 0 then t0 else if i + 2 = 1 then t1 else if i + 2 < 10 then aK (i + 2 - 2) else aV (i + 2 - 10)) = aK i := fun i hi => by
        rw [if_neg (by omega), if_neg (by omega), if_pos (by omega), Nat.add_sub_cancel]
      refine hS.2 i j hi hj ?_
      have e : (if i + 2 = 0 then t0 else if i + 2 = 1 then t1 else if i + 2 < 10 then aK (i + 2 - 2) else aV (i + 2 - 10)) = (if j + 2 = 0 then t0 else if j + 2 = 1 then t1 else if j + 2 < 10 then aK (j + 2 - 2) else aV (j + 2 - 10)) := e
      rw [ee i hi, ee j hj] at e
      exact e
  · exact ht (.arrayOver (.array .int)) (k_in 66 (by decide +kernel))
/-- classes and classes of arrays -/
theorem g_known {s : State} {args : Array Value} (ht : ∀ w ∈ o_wt, w.before args s = true) (h1 : n_AO1 s) (h2 : va_AO "ReadCaller$Site" s) (h3 : va_AO "ReadCaller$Read" s) : ∃ (D : va_G) (kA : Nat → ClassId), va_K D vwCl (o_tys kA) s := by
  have one : ∀ c : Nat, ∃ q : ClassId × (Nat → Nat), c < 11 → u_Kn s (o_C c).1 (o_C c).2.1 (o_C c).2.2 q.1 q.2 := by
    have go : ∀ (c : Nat), o_ck c → Cond.instantiable (o_C c).1 (o_C c).2.2 ∈ o_wt → ∃ q : ClassId × (Nat → Nat), c < 11 → u_Kn s (o_C c).1 (o_C c).2.1 (o_C c).2.2 q.1 q.2 := fun c hk hi => by
      obtain ⟨cC, iS, h⟩ := u_known (args := args) ht hk.2.1 (ht _ hi)
      exact ⟨(cC, iS), fun _ => h⟩
    intro c
    match c with
    | 0 => exact go 0 wc0 w_in0
    | 1 => exact go 1 wc1 w_in1
    | 2 => exact go 2 wc2 w_in2
    | 3 => exact go 3 wc3 w_in3
    | 4 => exact go 4 wc4 w_in4
    | 5 => exact go 5 wc5 w_in5
    | 6 => exact go 6 wc6 w_in6
    | 7 => exact go 7 wc7 w_in7
    | 8 => exact go 8 wc8 w_in8
    | 9 => exact go 9 wc9 w_in9
    | 10 => exact go 10 wc10 w_in10
    | c + 11 => exact ⟨(0, fun _ => 0), fun h => absurd h (by omega)⟩
  obtain ⟨q, hq⟩ := Classical.axiomOfChoice one
  obtain ⟨a1, p1, p2⟩ := k_A (ht _ w_ac1)
  obtain ⟨a2, p3, p4⟩ := k_A (ht _ w_ac2)
  obtain ⟨a3, p5, p6⟩ := k_AA h1
  obtain ⟨a4, p7, p8⟩ := k_O h3
  obtain ⟨a5, p9, p10⟩ := k_O h2
  refine ⟨(fun c => (q c).1, fun c => (q c).2), fun k => if k = 1 then a1 else if k = 2 then a2 else if k = 3 then a3 else if k = 4 then a4 else a5, fun c w hw => ?_, fun k w hw => ?_⟩
  · have hc : c < 11 := (List.getElem?_eq_some_iff.mp hw).1
    have e : w = o_C c := by
      unfold o_C
      rw [hw]
      rfl
    rw [e]
    exact hq c hc
  · have hk : k < 5 := (List.getElem?_eq_some_iff.mp hw).1
    match k, hk, hw with
    | 0, _, hw => cases hw; exact ⟨p1, p2⟩
    | 1, _, hw => cases hw; exact ⟨p3, p4⟩
    | 2, _, hw => cases hw; exact ⟨p5, p6⟩
    | 3, _, hw => cases hw; exact ⟨p7, p8⟩
    | 4, _, hw => cases hw; exact ⟨p9, p10⟩

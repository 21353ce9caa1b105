/-! THE TABLE: pieces of text; Table.write .. writeGain -/
def tw_ds (n : Nat) : Nat → List Nat
  | 0 => [48 + n % 10]
  | e + 1 => (48 + n / 10 ^ (e + 1) % 10) :: tw_ds n e
def tw_e (n : Nat) : Nat := if n < 10 then 0 else if n < 100 then 1 else 2
/-- the digits of a number up to 999 -/
def tw_dg (n : Nat) : List Nat := tw_ds n (tw_e n)
/-- a base's letter -/
def tw_b (c : Nat) : Nat := [65, 67, 71, 84].getD c 84
/-- n bases from a position on -/
def tw_bs (f : Nat → Nat) : Nat → Nat → List Nat
  | _, 0 => []
  | lo, n + 1 => tw_b (f lo) :: tw_bs f (lo + 1) n
/-- the letters of a gain -/
def tw_gn (g : Nat) : List Nat := if g < 16 then [tw_b (g % 4)] else if g < 64 then [tw_b (g / 4 % 4), tw_b (g % 4)] else [tw_b (g / 16 % 4), tw_b (g / 4 % 4), tw_b (g % 4)]
/-- the numbers of links that there are -/
def lk_V (g : Nat) : Prop := g ≤ 7 ∨ (16 ≤ g ∧ g ≤ 31) ∨ (64 ≤ g ∧ g ≤ 127)
def tw_js (F : Nat → List Nat) : List Nat → List Nat
  | [] => []
  | c :: l => 44 :: (F c ++ tw_js F l)
/-- with commas between -/
def tw_jn (F : Nat → List Nat) : List Nat → List Nat
  | [] => []
  | c :: l => F c ++ tw_js F l
theorem tw_b_lt {c : Nat} : tw_b c < 128 := by
  unfold tw_b
  match c with
  | 0 => decide
  | 1 => decide
  | 2 => decide
  | 3 => decide
  | c + 4 => exact (by decide : (84 : Nat) < 128)
theorem tw_ch {c : Nat} (h : c < 128) : vp_nar .char (nI c) = nI c := by
  have : ∀ c, c < 128 → vp_nar .char (nI c) = nI c := by decide +kernel
  exact this c h
theorem tw_i2c {c : Nat} (h : c < 128) : ((nI c).toUInt32 % 65536).toInt32 = nI c := by
  have : ∀ c, c < 128 → ((nI c).toUInt32 % 65536).toInt32 = nI c := by decide +kernel
  exact this c h
theorem tw_letter {c : Nat} (h : c < 4) : k_ch 2 c = nI (tw_b c) := by
  rcases (show c = 0 ∨ c = 1 ∨ c = 2 ∨ c = 3 by omega) with rfl | rfl | rfl | rfl <;> rfl
/-- the table's cells and its chars -/
def ly_tb (G : o_G) (r : o_R) (tb : Nat) : Prop := o_O G tb 8 ∧ r tb 0 = tb + 1 ∧ o_Z G (tb + 1) 2 2229
def tw_S (i : o_I) (tb : Nat) (l : List Nat) : Prop := i tb 1 = nI l.length ∧ ∀ k c, l[k]? = some c → c < 128 ∧ i (tb + 1) k = nI c
def tw_F (tb : Nat) (i j : o_I) : Prop := ∀ a k, a ≠ tb → a ≠ tb + 1 → j a k = i a k
theorem tw_F.trans {tb : Nat} {i j q : o_I} (h : tw_F tb i j) (h2 : tw_F tb j q) : tw_F tb i q := fun a k n1 n2 => by rw [h2 a k n1 n2, h a k n1 n2]
theorem c_write {G : o_G} {d : Nat} {i : o_I} {r : o_R} {post : o_I → Prop} {tb c : Nat} {l : List Nat} (ht : ly_tb G r tb) (hS : tw_S i tb l) (hl : l.length < 2229) (hc : c < 128) (h : ∀ j, tw_S j tb (l ++ [c]) → tw_F tb i j → post j) : SpV G (d + 1) mX8_write [.ref tb, .int (nI c)] post i r := by
  obtain ⟨hO, e0, Z0⟩ := ht
  obtain ⟨h1, h2⟩ := hS
  refine sp_of 0 (by decide +kernel) (Nat.le_of_ble_eq_true rfl) rfl (sX8_write_0 tb _ ?_)
  rw [e0, Z0.len, h1, nI_clamp (by omega), tw_ch hc]
  refine ⟨hO, Z0.Y, fun hle => absurd hle (nI_ge hl (by decide)), fun _ => ⟨vp_in_nI hl (by decide), fun i5 f5 i6 f6 => o_rv (h i6 ⟨?_, fun k x hk => ?_⟩ (fun a k n1 n2 => ?_))⟩⟩
  · rw [f6, o_up_s, f5, o_up_a (by omega), h1, nI_1, List.length_append]
    rfl
  · rw [f6, o_up_a (by omega), f5]
    by_cases ek : k = l.length
    · subst ek
      rw [List.getElem?_append_right (Nat.le_refl _), Nat.sub_self] at hk
      have : c = x := by simpa using hk
      subst this
      exact ⟨hc, by rw [o_up_s]⟩
    · have hkl : k < l.length := by
        have := (List.getElem?_eq_some_iff.mp hk).1
        rw [List.length_append] at this
        simp at this
        omega
      rw [List.getElem?_append_left hkl] at hk
      rw [o_up_k ek]
      exact h2 k x hk
  · rw [f6, o_up_a n1, f5, o_up_a n2]
theorem c_comma {G : o_G} {d : Nat} {i : o_I} {r : o_R} {post : o_I → Prop} {tb : Nat} {x : Int32} {l : List Nat} (ht : ly_tb G r tb) (hS : tw_S i tb l) (hl : l.length < 2229) (h0 : x = 0 → post i) (h1 : ¬ x = 0 → ∀ j, tw_S j tb (l ++ [44]) → tw_F tb i j → post j) : SpV G (d + 2) mX8_writeComma [.ref tb, .int x] post i r :=
  sp_of 0 (by decide +kernel) (Nat.le_of_ble_eq_true rfl) rfl (sX8_writeComma_0 tb x ⟨fun z => o_rv (h0 z), fun z => ⟨ht.1, c_write (c := 44) ht hS hl (by decide) (fun j a b => o_rv (h1 z j a b))⟩⟩)
theorem tw_ds_len (n : Nat) : ∀ e, (tw_ds n e).length = e + 1 := by
  intro e
  induction e with
  | zero => rfl
  | succ e ih => show (tw_ds n e).length + 1 = e + 1 + 1; rw [ih]
theorem c_writeNumber {G : o_G} {d : Nat} {i : o_I} {r : o_R} {post : o_I → Prop} {tb n : Nat} {l : List Nat} (ht : ly_tb G r tb) (hS : tw_S i tb l) (hl : l.length + (tw_dg n).length ≤ 2229) (hn : n ≤ 999) (h : ∀ j, tw_S j tb (l ++ tw_dg n) → tw_F tb i j → post j) : SpV G (d + 2) mX8_writeNumber [.ref tb, .int (nI n)] post i r := by
  have out : ∀ e l2 j, e ≤ 2 → l2.length + (e + 1) ≤ 2229 → l2 ++ tw_ds n e = l ++ tw_dg n → tw_S j tb l2 → tw_F tb i j → Ok G (d + 2) mX8_writeNumber (fun v j q => q = r ∧ v = none ∧ post j) 27 [some (.ref tb), some (.int (nI n)), none, some (.int (nI (10 ^ e)))] [] j r := by
    intro e
    induction e with
    | zero =>
      intro l2 j he hl2 el S F
      refine sX8_writeNumber_27 tb _ _ ⟨fun w => absurd w (by decide), fun _ => ⟨by decide, ht.1, ?_⟩⟩
      have e1 : nI n / nI (10 ^ 0) = nI n := by rw [pk_div (by omega) (by decide) (by decide)]; congr 1; exact Nat.div_one n
      rw [e1, show nI n - nI n / 10 * 10 = nI (n % 10) from pk_rem (a := n) (d := 10) (by omega) (by decide) (by decide), show (48 : Int32) = nI 48 from rfl, nI_add, tw_i2c (by omega)]
      refine c_write ht S (by omega) (by omega) (fun j2 S2 F2 x5 e5 => ?_)
      have e5 : x5 = 0 := by rw [e5]; decide
      rw [e5]
      refine sX8_writeNumber_27 tb _ _ ⟨fun _ => o_rv (h j2 ?_ (F.trans F2)), fun w => absurd (by decide) w⟩
      rw [← el]
      exact S2
    | succ e ih =>
      intro l2 j he hl2 el S F
      have hp : 0 < 10 ^ (e + 1) := Nat.pow_pos (by decide)
      have hp2 : 10 ^ (e + 1) ≤ 10 ^ 2 := Nat.pow_le_pow_right (by decide) he
      have hp3 : 10 ^ (e + 1) < 2 ^ 31 := by omega
      have z0 : nI (10 ^ (e + 1)) ≤ 0 ↔ 10 ^ (e + 1) ≤ 0 := nI_leI (b := 0) hp3 (by decide)
      have z1 : nI (10 ^ (e + 1)) = 0 ↔ 10 ^ (e + 1) = 0 := nI_eq (b := 0) hp3 (by decide)
      refine sX8_writeNumber_27 tb _ _ ⟨fun w => absurd (z0.mp w) (by omega), fun _ => ⟨fun w => absurd (z1.mp w) (by omega), ht.1, ?_⟩⟩
      have hq : n / 10 ^ (e + 1) ≤ n := Nat.div_le_self _ _
      rw [pk_div (by omega) hp hp3, show nI (n / 10 ^ (e + 1)) - nI (n / 10 ^ (e + 1)) / 10 * 10 = nI (n / 10 ^ (e + 1) % 10) from pk_rem (a := n / 10 ^ (e + 1)) (d := 10) (by omega) (by decide) (by decide), show (48 : Int32) = nI 48 from rfl, nI_add, tw_i2c (by omega)]
      refine c_write ht S (by omega) (by omega) (fun j2 S2 F2 x5 e5 => ?_)
      have e5 : x5 = nI (10 ^ e) := by
        rw [e5, show (10 : Int32) = nI 10 from rfl, pk_div hp3 (by decide) (by decide)]
        congr 1
        rw [Nat.pow_succ, Nat.mul_div_cancel _ (by decide)]
      rw [e5]
      refine ih (l2 ++ [48 + n / 10 ^ (e + 1) % 10]) j2 (by omega) (by rw [List.length_append]; simp; omega) ?_ S2 (F.trans F2)
      rw [← el, List.append_assoc]
      rfl
  have fin : ∀ e, e = tw_e n → e ≤ 2 → Ok G (d + 2) mX8_writeNumber (fun v j q => q = r ∧ v = none ∧ post j) 27 [some (.ref tb), some (.int (nI n)), none, some (.int (nI (10 ^ e)))] [] i r := fun e he h2 => by
    refine out e l i h2 ?_ (by rw [he]; rfl) hS (fun _ _ _ _ => rfl)
    have := tw_ds_len n (tw_e n)
    unfold tw_dg at hl
    omega
  have ed : nI n / 10 = nI (n / 10) := pk_div (a := n) (d := 10) (by omega) (by decide) (by decide)
  have go : ∀ e, e ≤ 2 → (n / 10 < 10 ^ e → e = tw_e n) → (¬ n / 10 < 10 ^ e → e < 2 ∧ Ok G (d + 2) mX8_writeNumber (fun v j q => q = r ∧ v = none ∧ post j) 2 [some (.ref tb), some (.int (nI n)), some (.int (nI (10 ^ (e + 1)))), none] [] i r) → Ok G (d + 2) mX8_writeNumber (fun v j q => q = r ∧ v = none ∧ post j) 2 [some (.ref tb), some (.int (nI n)), some (.int (nI (10 ^ e))), none] [] i r := by
    intro e he h1 h2
    have hp2 : 10 ^ e ≤ 10 ^ 2 := Nat.pow_le_pow_right (by decide) he
    have hz : nI (n / 10) < nI (10 ^ e) ↔ n / 10 < 10 ^ e := nI_ltI (by omega) (by omega)
    refine sX8_writeNumber_2 tb _ _ ?_
    rw [ed]
    refine ⟨fun w => fin e (h1 (hz.mp w)) he, fun w => ⟨fun w2 => ?_, fun _ x3 e3 => ?_⟩⟩
    · exact absurd w2 (nI_ge (a := 10 ^ e) (b := 1000) (by omega) (by decide))
    · rw [e3, show (10 : Int32) = nI 10 from rfl, pk_mul, ← Nat.pow_succ]
      exact (h2 (fun z => w (hz.mpr z))).2
  refine sp_of 2 (by decide +kernel) (Nat.le_of_ble_eq_true rfl) rfl (sX8_writeNumber_0 tb _ ?_)
  unfold tw_e at go
  refine go 0 (by decide) (fun w => ?_) (fun w0 => ⟨by decide, go 1 (by decide) (fun w => ?_) (fun w1 => ⟨by decide, go 2 (by decide) (fun w => ?_) (fun w2 => absurd ?_ w2)⟩)⟩)
  · rw [if_pos (by omega)]
  · rw [if_neg (by omega), if_pos (by omega)]
  · rw [if_neg (by omega), if_neg (by omega)]
  · omega
theorem c_writeText {G : o_G} {d : Nat} {i : o_I} {r : o_R} {post : o_I → Prop} {tb k : Nat} {l t : List Nat} (hc : o_cst G) (ht : ly_tb G r tb) (h2 : 2 ≤ k) (h5 : k ≤ 5) (htx : k_sb.getD (k - 2) [] = t.map nI) (ht128 : ∀ c ∈ t, c < 128) (htl : k_ln k = t.length) (hS : tw_S i tb l) (hl : l.length + t.length ≤ 2229) (h : ∀ j, tw_S j tb (l ++ t) → tw_F tb i j → post j) : SpV G (d + 5) mX8_writeText [.ref tb, .ref (o_ad G k)] post i r := by
  have loop : ∀ (u : List Nat) q l2 j, t.drop q = u → q ≤ t.length → l2 ++ u = l ++ t → tw_S j tb l2 → tw_F tb i j → Ok G (d + 5) mX8_writeText (fun v j q => q = r ∧ v = none ∧ post j) 2 [some (.ref tb), some (.ref (o_ad G k)), some (.int (nI q))] [] j r := by
    intro u
    induction u with
    | nil =>
      intro q l2 j hu hq el S F
      have hql : q = t.length := by
        have := congrArg List.length hu
        rw [List.length_drop] at this
        simp at this
        omega
      refine sX8_writeText_2 tb k _ ⟨hc, h2, h5, c_strlen hc h2 h5 ⟨fun _ => o_rv (h j ?_ F), fun w => absurd (by rw [htl]; exact nI_le (by omega) (by omega)) w⟩⟩
      rw [← el, List.append_nil]
      exact S
    | cons c u ih =>
      intro q l2 j hu hq el S F
      obtain ⟨g1, g2, g3⟩ := drop_cons hu
      have hcm : c ∈ t := List.mem_of_mem_drop (by rw [hu]; exact List.mem_cons_self)
      have hch : k_ch k q = nI c := by
        unfold k_ch
        rw [htx, List.getD_eq_getElem?_getD, List.getElem?_map, List.getElem?_eq_getElem g1]
        rw [List.getD_eq_getElem?_getD, List.getElem?_eq_getElem g1] at g2
        show nI t[q] = nI c
        rw [← g2]
        rfl
      have hll : l2.length + (u.length + 1) = l.length + t.length := by
        have := congrArg List.length el
        simpa using this
      refine sX8_writeText_2 tb k _ ⟨hc, h2, h5, c_strlen hc h2 h5 ⟨fun w => absurd w (by rw [htl]; exact nI_ge g1 (by omega)), fun _ => c_charAt hc h2 h5 (by rw [htl]; exact g1) ⟨ht.1, ?_⟩⟩⟩
      rw [hch]
      refine c_write ht S (by omega) (ht128 c hcm) (fun j2 S2 F2 x9 e9 => ?_)
      rw [e9, nI_1]
      exact ih (q + 1) _ j2 g3 (by omega) (by rw [List.append_assoc]; exact el) S2 (F.trans F2)
  exact sp_of 1 (by decide +kernel) (Nat.le_of_ble_eq_true rfl) rfl (sX8_writeText_0 tb k (loop t 0 l i rfl (Nat.zero_le _) rfl hS (fun _ _ _ _ => rfl)))

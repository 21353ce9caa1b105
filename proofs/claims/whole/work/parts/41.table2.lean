/-! Table.writeBases, writeGain, begin, writePosition, greatestLoss, writeLink -/
def sn_S (i : o_I) (sm : Nat) (nm : List Nat) (len : Nat) (f : Nat → Nat) : Prop := (i sm 1 = nI nm.length ∧ nm.length ≤ 8 ∧ ∀ k c, nm[k]? = some c → c < 128 ∧ i (sm + 1) k = nI c) ∧ i sm 3 = nI len ∧ len ≤ 48 ∧ ∀ p, p < len → f p < 4 ∧ i (sm + 2) p = nI (f p)
theorem sn_F {i j : o_I} {tb sm : Nat} {nm : List Nat} {len : Nat} {f : Nat → Nat} (h : sn_S i sm nm len f) (hd : tb + 2 ≤ sm) (hF : tw_F tb i j) : sn_S j sm nm len f := ⟨⟨by rw [hF _ _ (by omega) (by omega)]; exact h.1.1, h.1.2.1, fun k c hk => by rw [hF _ _ (by omega) (by omega)]; exact h.1.2.2 k c hk⟩, by rw [hF _ _ (by omega) (by omega)]; exact h.2.1, h.2.2.1, fun p hp => by rw [hF _ _ (by omega) (by omega)]; exact h.2.2.2 p hp⟩
theorem tw_le {l new rest T : List Nat} (e : l ++ (new ++ rest) = T) (h : T.length ≤ 2229) : l.length + new.length ≤ 2229 := by
  have := congrArg List.length e
  rw [List.length_append, List.length_append] at this
  omega
theorem tw_nx {l new rest T : List Nat} (e : l ++ (new ++ rest) = T) : (l ++ new) ++ rest = T := by rw [List.append_assoc]; exact e
theorem c_writeBases {G : o_G} {d : Nat} {i : o_I} {r : o_R} {post : o_I → Prop} {tb sm lo n hi len : Nat} {nm l : List Nat} {f : Nat → Nat} (hc : o_cst G) (ht : ly_tb G r tb) (hsm : ly_sm G r sm) (hd : tb + 2 ≤ sm) (hN : sn_S i sm nm len f) (hhi : hi + 1 = lo + n) (hlen : lo + n ≤ len) (hS : tw_S i tb l) (hl : l.length + (tw_bs f lo n).length ≤ 2229) (h : ∀ j, tw_S j tb (l ++ tw_bs f lo n) → tw_F tb i j → post j) : SpV G (d + 5) mX8_writeBases [.ref tb, .ref sm, .int (nI lo), .int (nI hi)] post i r := by
  have e2 := hsm.2.2.2.1
  have Z2 := hsm.2.2.2.2.1
  have h48 := hN.2.2.1
  have loop : ∀ m p l2 j, p + m = lo + n → l2 ++ tw_bs f p m = l ++ tw_bs f lo n → tw_S j tb l2 → tw_F tb i j → Ok G (d + 5) mX8_writeBases (fun v j q => q = r ∧ v = none ∧ post j) 3 [some (.ref tb), some (.ref sm), none, some (.int (nI hi)), some (.int (nI p))] [] j r := by
    intro m
    induction m with
    | zero =>
      intro p l2 j hp el S F
      refine sX8_writeBases_3 tb sm _ _ ⟨fun _ => o_rv (h j ?_ F), fun w => absurd (nI_lt (a := hi) (b := p) (by omega) (by omega)) w⟩
      rw [← el]
      show tw_S j tb (l2 ++ [])
      rw [List.append_nil]
      exact S
    | succ m ih =>
      intro p l2 j hp el S F
      have N := sn_F hN hd F
      obtain ⟨b1, b2⟩ := N.2.2.2 p (by omega)
      refine sX8_writeBases_3 tb sm _ _ ⟨fun w => absurd w (nI_nlt (by omega) (by omega)), fun _ => ⟨hsm.1, fun w => absurd w (by rw [N.2.1]; exact nI_ge (by omega) (by omega)), fun _ => ?_⟩⟩
      rw [e2, Z2.len, nI_clamp (n := p) (by omega), b2]
      refine ⟨hc, Z2.Y, vp_in_nI (by omega) (by decide), by decide, by decide, c_charAt hc (by decide) (by decide) (Nat.lt_of_lt_of_le b1 (by decide)) ⟨ht.1, ?_⟩⟩
      rw [tw_letter b1]
      have el2 : l2 ++ ([tw_b (f p)] ++ tw_bs f (p + 1) m) = l ++ tw_bs f lo n := el
      refine c_write ht S (by have := tw_le el2 (by rw [List.length_append]; exact hl); simp at this; omega) tw_b_lt (fun j2 S2 F2 x12 e12 => ?_)
      rw [e12, nI_1]
      exact ih (p + 1) _ j2 (by omega) (tw_nx el2) S2 (F.trans F2)
  exact sp_of 1 (by decide +kernel) (Nat.le_of_ble_eq_true rfl) rfl (sX8_writeBases_0 tb sm _ _ (loop n lo l i rfl rfl hS (fun _ _ _ _ => rfl)))
def tw_gs (g : Nat) : Nat → List Nat
  | 0 => [tw_b (g % 4)]
  | e + 1 => tw_b (g / 4 ^ (e + 1) % 4) :: tw_gs g e
theorem c_writeGain {G : o_G} {d : Nat} {i : o_I} {r : o_R} {post : o_I → Prop} {tb g : Nat} {l : List Nat} (hc : o_cst G) (ht : ly_tb G r tb) (h4 : 4 ≤ g) (h127 : g ≤ 127) (hS : tw_S i tb l) (hl : l.length + (tw_gn g).length ≤ 2229) (h : ∀ j, tw_S j tb (l ++ tw_gn g) → tw_F tb i j → post j) : SpV G (d + 5) mX8_writeGain [.ref tb, .int (nI g)] post i r := by
  have hlt : ∀ c, c < 4 → c < k_ln 2 := fun c hc => Nat.lt_of_lt_of_le hc (by decide)
  have out : ∀ e l2 j, e ≤ 2 → l2 ++ tw_gs g e = l ++ tw_gn g → tw_S j tb l2 → tw_F tb i j → Ok G (d + 5) mX8_writeGain (fun v j q => q = r ∧ v = none ∧ post j) 26 [some (.ref tb), some (.int (nI g)), none, some (.int (nI (4 ^ e)))] [] j r := by
    intro e
    induction e with
    | zero =>
      intro l2 j he el S F
      refine sX8_writeGain_26 tb _ _ ⟨fun w => absurd w (by decide), fun _ => ⟨hc, by decide, by decide, by decide, ?_⟩⟩
      have e1 : nI g / nI (4 ^ 0) = nI g := by rw [pk_div (by omega) (by decide) (by decide)]; congr 1; exact Nat.div_one g
      rw [e1, show nI g - nI g / 4 * 4 = nI (g % 4) from pk_rem (a := g) (d := 4) (by omega) (by decide) (by decide)]
      refine c_charAt hc (by decide) (by decide) (hlt _ (Nat.mod_lt _ (by decide))) ⟨ht.1, ?_⟩
      rw [tw_letter (Nat.mod_lt _ (by decide))]
      have el2 : l2 ++ ([tw_b (g % 4)] ++ []) = l ++ tw_gn g := el
      refine c_write ht S (by have := tw_le el2 (by rw [List.length_append]; exact hl); simp at this; omega) tw_b_lt (fun j2 S2 F2 x9 e9 => ?_)
      have e9 : x9 = 0 := by rw [e9]; decide
      rw [e9]
      refine sX8_writeGain_26 tb _ _ ⟨fun _ => o_rv (h j2 ?_ (F.trans F2)), fun w => absurd (by decide) w⟩
      rw [← el]
      exact S2
    | succ e ih =>
      intro l2 j he el S F
      have hp : 0 < 4 ^ (e + 1) := Nat.pow_pos (by decide)
      have hp2 : 4 ^ (e + 1) ≤ 4 ^ 2 := Nat.pow_le_pow_right (by decide) he
      have hp3 : 4 ^ (e + 1) < 2 ^ 31 := by omega
      have z0 : nI (4 ^ (e + 1)) ≤ 0 ↔ 4 ^ (e + 1) ≤ 0 := nI_leI (b := 0) hp3 (by decide)
      have z1 : nI (4 ^ (e + 1)) = 0 ↔ 4 ^ (e + 1) = 0 := nI_eq (b := 0) hp3 (by decide)
      refine sX8_writeGain_26 tb _ _ ⟨fun w => absurd (z0.mp w) (by omega), fun _ => ⟨hc, fun w => absurd (z1.mp w) (by omega), by decide, by decide, ?_⟩⟩
      have hq : g / 4 ^ (e + 1) ≤ g := Nat.div_le_self _ _
      rw [pk_div (by omega) hp hp3, show nI (g / 4 ^ (e + 1)) - nI (g / 4 ^ (e + 1)) / 4 * 4 = nI (g / 4 ^ (e + 1) % 4) from pk_rem (a := g / 4 ^ (e + 1)) (d := 4) (by omega) (by decide) (by decide)]
      refine c_charAt hc (by decide) (by decide) (hlt _ (Nat.mod_lt _ (by decide))) ⟨ht.1, ?_⟩
      rw [tw_letter (Nat.mod_lt _ (by decide))]
      have el2 : l2 ++ ([tw_b (g / 4 ^ (e + 1) % 4)] ++ tw_gs g e) = l ++ tw_gn g := el
      refine c_write ht S (by have := tw_le el2 (by rw [List.length_append]; exact hl); simp at this; omega) tw_b_lt (fun j2 S2 F2 x9 e9 => ?_)
      have e9 : x9 = nI (4 ^ e) := by
        rw [e9, show (4 : Int32) = nI 4 from rfl, pk_div hp3 (by decide) (by decide)]
        congr 1
        rw [Nat.pow_succ, Nat.mul_div_cancel _ (by decide)]
      rw [e9]
      exact ih _ j2 (by omega) (tw_nx el2) S2 (F.trans F2)
  have fin : ∀ e, e ≤ 2 → tw_gs g e = tw_gn g → Ok G (d + 5) mX8_writeGain (fun v j q => q = r ∧ v = none ∧ post j) 26 [some (.ref tb), some (.int (nI g)), none, some (.int (nI (4 ^ e)))] [] i r := fun e h2 he => out e l i h2 (by rw [he]) hS (fun _ _ _ _ => rfl)
  have go : ∀ e, e ≤ 2 → (g < 4 ^ (e + 2) → tw_gs g e = tw_gn g) → (¬ g < 4 ^ (e + 2) → e < 2 ∧ Ok G (d + 5) mX8_writeGain (fun v j q => q = r ∧ v = none ∧ post j) 2 [some (.ref tb), some (.int (nI g)), some (.int (nI (4 ^ (e + 2)))), none] [] i r) → Ok G (d + 5) mX8_writeGain (fun v j q => q = r ∧ v = none ∧ post j) 2 [some (.ref tb), some (.int (nI g)), some (.int (nI (4 ^ (e + 1)))), none] [] i r := by
    intro e he h1 h2
    have hp2 : 4 ^ (e + 2) ≤ 4 ^ 4 := Nat.pow_le_pow_right (by decide) (by omega)
    have em : nI (4 ^ (e + 1)) * 4 = nI (4 ^ (e + 2)) := by rw [show (4 : Int32) = nI 4 from rfl, pk_mul, ← Nat.pow_succ]
    have hz : nI g < nI (4 ^ (e + 2)) ↔ g < 4 ^ (e + 2) := nI_ltI (by omega) (by omega)
    have hp1 : 4 ^ (e + 1) ≤ 4 ^ 3 := Nat.pow_le_pow_right (by decide) (by omega)
    have ed : nI (4 ^ (e + 1)) / 4 = nI (4 ^ e) := by
      rw [show (4 : Int32) = nI 4 from rfl, pk_div (by omega) (by decide) (by decide)]
      congr 1
      rw [Nat.pow_succ, Nat.mul_div_cancel _ (by decide)]
    refine sX8_writeGain_2 tb _ _ ?_
    rw [em, ed]
    refine ⟨fun w x2 e2 => ?_, fun w => ⟨fun w2 x4 e4 => ?_, fun _ x5 e5 => ?_⟩⟩
    · rw [e2]
      exact fin e he (h1 (hz.mp w))
    · obtain ⟨h3, -⟩ := h2 (fun z => w (hz.mpr z))
      have : 4 ^ (e + 1) ≤ 4 ^ 2 := Nat.pow_le_pow_right (by decide) (by omega)
      exact absurd w2 (nI_ge (a := 4 ^ (e + 1)) (b := 64) (by omega) (by decide))
    · rw [e5]
      exact (h2 (fun z => w (hz.mpr z))).2
  refine sp_of 2 (by decide +kernel) (Nat.le_of_ble_eq_true rfl) rfl (sX8_writeGain_0 tb _ (sX8_writeGain_2 tb _ _ ⟨fun w => absurd w (nI_nlt (a := g) (b := 4) h4 (by omega)), fun _ => ⟨fun w => absurd w (by decide), fun _ x5 e5 => ?_⟩⟩))
  rw [show x5 = nI (4 ^ 1) by rw [e5]; decide]
  refine go 0 (by decide) (fun w => ?_) (fun w0 => ⟨by decide, go 1 (by decide) (fun w => ?_) (fun w1 => ⟨by decide, go 2 (by decide) (fun w => ?_) (fun w2 => absurd ?_ w2)⟩)⟩)
  · unfold tw_gn
    rw [if_pos (by omega)]
    rfl
  · unfold tw_gn
    rw [if_neg (by omega), if_pos (by omega)]
    rfl
  · unfold tw_gn
    rw [if_neg (by omega), if_neg (by omega)]
    rfl
  · omega
/-- the first two lines, and the two texts of a line -/
def tw_h : List Nat := [35, 35, 102, 105, 108, 101, 102, 111, 114, 109, 97, 116, 61, 86, 67, 70, 118, 52, 46, 51, 10, 35, 67, 72, 82, 79, 77, 9, 80, 79, 83, 9, 73, 68, 9, 82, 69, 70, 9, 65, 76, 84, 9, 81, 85, 65, 76, 9, 70, 73, 76, 84, 69, 82, 9, 73, 78, 70, 79, 9, 70, 79, 82, 77, 65, 84, 9, 83, 10]
def tw_t4 : List Nat := [9, 46, 9]
def tw_t5 : List Nat := [9, 46, 9, 46, 9, 71, 84, 58, 68, 80, 58, 65, 68, 58, 80, 76, 9]
theorem c_tbegin {G : o_G} {d : Nat} {i : o_I} {r : o_R} {post : o_I → Prop} {tb : Nat} (hc : o_cst G) (ht : ly_tb G r tb) (h : ∀ j, tw_S j tb tw_h → tw_F tb i j → post j) : SpV G (d + 6) mX8_begin [.ref tb] post i r := by
  refine sp_of 0 (by decide +kernel) (Nat.le_of_ble_eq_true rfl) rfl (sX8_begin_0 tb ⟨ht.1, fun i2 f2 => ⟨hc, c_writeText (k := 3) (l := []) (t := tw_h) hc ht (by decide) (by decide) (by decide +kernel) (by decide +kernel) (by decide +kernel) ⟨by rw [f2, o_up_s]; rfl, fun k c hk => by cases hk⟩ (by decide +kernel) (fun j S F => o_rv (h j S (fun a k n1 n2 => by rw [F a k n1 n2, f2, o_up_a n1])))⟩⟩)
def tw_pos (nm : List Nat) (p : Nat) : List Nat := nm ++ ([9] ++ (tw_dg (p + 1) ++ tw_t4))
theorem c_writePosition {G : o_G} {d : Nat} {i : o_I} {r : o_R} {post : o_I → Prop} {tb sm p len : Nat} {nm l : List Nat} {f : Nat → Nat} (hc : o_cst G) (ht : ly_tb G r tb) (hsm : ly_sm G r sm) (hd : tb + 2 ≤ sm) (hN : sn_S i sm nm len f) (hp : p < 48) (hS : tw_S i tb l) (hl : l.length + (tw_pos nm p).length ≤ 2229) (h : ∀ j, tw_S j tb (l ++ tw_pos nm p) → tw_F tb i j → post j) : SpV G (d + 6) mX8_writePosition [.ref tb, .ref sm, .int (nI p)] post i r := by
  have e0 := hsm.2.1
  have Z0 := hsm.2.2.1
  have hT : (l ++ tw_pos nm p).length ≤ 2229 := by rw [List.length_append]; exact hl
  have h8 := hN.1.2.1
  have loop : ∀ (u : List Nat) q l2 j, nm.drop q = u → q ≤ nm.length → l2 ++ (u ++ ([9] ++ (tw_dg (p + 1) ++ tw_t4))) = l ++ tw_pos nm p → tw_S j tb l2 → tw_F tb i j → Ok G (d + 6) mX8_writePosition (fun v j q => q = r ∧ v = none ∧ post j) 2 [some (.ref tb), some (.ref sm), some (.int (nI p)), some (.int (nI q))] [] j r := by
    intro u
    induction u with
    | nil =>
      intro q l2 j hu hq el S F
      have hql : q = nm.length := by
        have := congrArg List.length hu
        rw [List.length_drop] at this
        simp at this
        omega
      have N := sn_F hN hd F
      have el1 : l2 ++ ([9] ++ (tw_dg (p + 1) ++ tw_t4)) = l ++ tw_pos nm p := el
      refine sX8_writePosition_2 tb sm _ _ ⟨hsm.1, fun _ => ⟨ht.1, c_write (c := 9) ht S (by have := tw_le el1 hT; simp at this; omega) (by decide) (fun j2 S2 F2 => ?_)⟩, fun w => absurd (by rw [N.1.1]; exact nI_le (by omega) (by omega)) w⟩
      have el2 := tw_nx el1
      rw [nI_1]
      refine c_writeNumber ht S2 (tw_le el2 hT) (by omega) (fun j3 S3 F3 => ⟨hc, ?_⟩)
      have el3 : ((l2 ++ [9]) ++ tw_dg (p + 1)) ++ (tw_t4 ++ []) = l ++ tw_pos nm p := by rw [List.append_nil]; exact tw_nx el2
      refine c_writeText (k := 4) (t := tw_t4) hc ht (by decide) (by decide) (by decide +kernel) (by decide +kernel) (by decide +kernel) S3 (tw_le el3 hT) (fun j4 S4 F4 => o_rv (h j4 ?_ (F.trans (F2.trans (F3.trans F4)))))
      have := tw_nx el3
      rw [List.append_nil] at this
      rw [← this]
      exact S4
    | cons c u ih =>
      intro q l2 j hu hq el S F
      obtain ⟨g1, g2, g3⟩ := drop_cons hu
      have N := sn_F hN hd F
      have hg : nm[q]? = some c := by
        rw [List.getD_eq_getElem?_getD, List.getElem?_eq_getElem g1] at g2
        rw [List.getElem?_eq_getElem g1, ← g2]
        rfl
      obtain ⟨b1, b2⟩ := N.1.2.2 q c hg
      refine sX8_writePosition_2 tb sm _ _ ⟨hsm.1, fun w => absurd w (by rw [N.1.1]; exact nI_ge g1 (by omega)), fun _ => ?_⟩
      rw [e0, Z0.len, nI_clamp (n := q) (by omega), b2]
      have el1 : l2 ++ ([c] ++ (u ++ ([9] ++ (tw_dg (p + 1) ++ tw_t4)))) = l ++ tw_pos nm p := el
      refine ⟨Z0.Y, vp_in_nI (by omega) (by decide), ht.1, c_write ht S (by have := tw_le el1 hT; simp at this; omega) b1 (fun j2 S2 F2 x12 e12 => ?_)⟩
      rw [e12, nI_1]
      exact ih (q + 1) _ j2 g3 (by omega) (tw_nx el1) S2 (F.trans F2)
  exact sp_of 1 (by decide +kernel) (Nat.le_of_ble_eq_true rfl) rfl (sX8_writePosition_0 tb sm _ (loop nm 0 l i rfl (Nat.zero_le _) rfl hS (fun _ _ _ _ => rfl)))
def tw_loss (al : List Nat) : Nat := (al.drop 1).foldl (fun n c => if c < 4 then max n c else n) 0
theorem c_greatestLoss {G : o_G} {d : Nat} {i : o_I} {r : o_R} {post : Int32 → o_I → Prop} {jd : Nat} {s : jd_s} {al : List Nat} (hj : ly_jd G r jd) (hA : ja_S i jd s al) (h3 : al.length ≤ 3) (h1 : 1 ≤ al.length) (h : post (nI (tw_loss al)) i) : SpI G (d + 1) mX8_greatestLoss [.ref jd] post i r := by
  obtain ⟨hO, e0, Z0, -⟩ := hj
  obtain ⟨a1, a2⟩ := hA
  have loop : ∀ (u : List Nat) q n, al.drop q = u → q ≤ al.length → n ≤ 3 → u.foldl (fun n c => if c < 4 then max n c else n) n = tw_loss al → Ok G (d + 1) mX8_greatestLoss (fun v j q => q = r ∧ ∃ x, v = some (.int x) ∧ post x j) 4 [some (.ref jd), some (.int (nI n)), some (.int (nI q))] [] i r := by
    intro u
    induction u with
    | nil =>
      intro q n hu hq hn hf
      have hql : q = al.length := by
        have := congrArg List.length hu
        rw [List.length_drop] at this
        simp at this
        omega
      have hf : n = tw_loss al := hf
      exact sX8_greatestLoss_4 jd _ _ ⟨hO, fun _ => by rw [hf]; exact o_ri h, fun w => absurd (by rw [a1]; exact nI_le (by omega) (by omega)) w⟩
    | cons c u ih =>
      intro q n hu hq hn hf
      obtain ⟨g1, g2, g3⟩ := drop_cons hu
      have hg : al[q]? = some c := by
        rw [List.getD_eq_getElem?_getD, List.getElem?_eq_getElem g1] at g2
        rw [List.getElem?_eq_getElem g1, ← g2]
        rfl
      obtain ⟨b1, b2, -⟩ := a2 q c hg
      refine sX8_greatestLoss_4 jd _ _ ⟨hO, fun w => absurd w (by rw [a1]; exact nI_ge g1 (by omega)), fun _ => ?_⟩
      rw [e0, Z0.len, nI_clamp (n := q) (by omega), b2]
      refine ⟨Z0.Y, vp_in_nI (by omega) (by decide), fun x6 e6 x7 e7 => ?_⟩
      have z4 : (4 : Int32) ≤ nI c ↔ 4 ≤ c := nI_leI (a := 4) (by decide) (by omega)
      have zc : nI n < nI c ↔ n < c := nI_ltI (by omega) (by omega)
      have e6 : x6 = nI (if c < 4 then max n c else n) := by
        rw [e6]
        by_cases w : 4 ≤ c
        · rw [if_pos (z4.mpr w), if_neg (by omega)]
        · rw [if_neg (fun q => w (z4.mp q)), if_pos (show c < 4 by omega)]
          by_cases w2 : n < c
          · rw [if_pos (zc.mpr w2), show max n c = c by omega]
          · rw [if_neg (fun q => w2 (zc.mp q)), show max n c = n by omega]
      rw [e6, e7, nI_1]
      exact ih (q + 1) _ g3 (by omega) (by split <;> omega) hf
  exact sp_of 2 (by decide +kernel) (Nat.le_of_ble_eq_true rfl) rfl (sX8_greatestLoss_0 jd (loop (al.drop 1) 1 0 rfl h1 (by decide) rfl))
def tw_alt (f : Nat → Nat) (p n c : Nat) : List Nat := tw_bs f p 1 ++ (if c < 4 then tw_bs f (p + c + 1) (n - c) else tw_gn c ++ tw_bs f (p + 1) n)
theorem c_writeLink {G : o_G} {d : Nat} {i : o_I} {r : o_R} {post : o_I → Prop} {tb sm p n c len : Nat} {nm l : List Nat} {f : Nat → Nat} (hc : o_cst G) (ht : ly_tb G r tb) (hsm : ly_sm G r sm) (hd : tb + 2 ≤ sm) (hN : sn_S i sm nm len f) (hpn : p + n + 1 ≤ len) (hcn : c < 4 → c ≤ n) (h127 : c ≤ 127) (hS : tw_S i tb l) (hl : l.length + (tw_alt f p n c).length ≤ 2229) (h : ∀ j, tw_S j tb (l ++ tw_alt f p n c) → tw_F tb i j → post j) : SpV G (d + 6) mX8_writeLink [.ref tb, .ref sm, .int (nI p), .int (nI n), .int (nI c)] post i r := by
  have h48 := hN.2.2.1
  have z4 : (4 : Int32) ≤ nI c ↔ 4 ≤ c := nI_leI (a := 4) (by decide) (by omega)
  have hT : (l ++ tw_alt f p n c).length ≤ 2229 := by rw [List.length_append]; exact hl
  refine sp_of 0 (by decide +kernel) (Nat.le_of_ble_eq_true rfl) rfl (sX8_writeLink_0 tb sm _ _ _ ⟨ht.1, ?_⟩)
  refine c_writeBases (lo := p) (n := 1) (hi := p) hc ht hsm hd hN rfl (by omega) hS (tw_le (rest := if c < 4 then tw_bs f (p + c + 1) (n - c) else tw_gn c ++ tw_bs f (p + 1) n) (T := l ++ tw_alt f p n c) rfl hT) (fun j S F => ?_)
  have N := sn_F hN hd F
  rw [nI_add, nI_add, nI_1, nI_1]
  refine ⟨fun w => ?_, fun w => ?_⟩
  · have hw := z4.mp w
    have el : (l ++ tw_bs f p 1) ++ (tw_gn c ++ tw_bs f (p + 1) n) = l ++ tw_alt f p n c := by
      unfold tw_alt
      rw [if_neg (by omega), List.append_assoc]
    refine c_writeGain hc ht hw h127 S (tw_le el hT) (fun j2 S2 F2 => ?_)
    have el2 : ((l ++ tw_bs f p 1) ++ tw_gn c) ++ (tw_bs f (p + 1) n ++ []) = l ++ tw_alt f p n c := by rw [List.append_nil]; exact tw_nx el
    refine c_writeBases (lo := p + 1) (n := n) (hi := p + n) hc ht hsm hd (sn_F N hd F2) (by omega) (by omega) S2 (tw_le el2 hT) (fun j3 S3 F3 => o_rv (h j3 ?_ (F.trans (F2.trans F3))))
    have := tw_nx el2
    rw [List.append_nil] at this
    rw [← this]
    exact S3
  · have hw : c < 4 := Nat.lt_of_not_le (fun z => w (z4.mpr z))
    have el : (l ++ tw_bs f p 1) ++ (tw_bs f (p + c + 1) (n - c) ++ []) = l ++ tw_alt f p n c := by
      unfold tw_alt
      rw [if_pos hw, List.append_nil, List.append_assoc]
    have := hcn hw
    refine c_writeBases (lo := p + c + 1) (n := n - c) (hi := p + n) hc ht hsm hd N (by omega) (by omega) S (tw_le el hT) (fun j3 S3 F3 => o_rv (h j3 ?_ (F.trans F3)))
    have := tw_nx el
    rw [List.append_nil] at this
    rw [← this]
    exact S3

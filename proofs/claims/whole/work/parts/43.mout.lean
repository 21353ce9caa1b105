/-! THE REFERENCE: out, outSix, outNumber, outBase, outBases, outGain -/
/-- the char that is wanted, 0 where there is none -/
def wo_f (l : List Nat) (w : Int32) : Int32 := if w < 0 then 0 else nI ((l[w.toNatClampNeg]?).getD 0)
theorem wo_app {l : List Nat} {c : Nat} {w : Int32} (hl : l.length < 2 ^ 31) : wo_f (l ++ [c]) w = if nI l.length = w then nI c else wo_f l w := by
  unfold wo_f
  by_cases h0 : w < 0
  · rw [if_pos h0, if_pos h0, if_neg (fun e => by rw [← e] at h0; exact nI_pos hl h0)]
  · obtain ⟨k, hk, rfl⟩ := nI_of h0
    rw [if_neg h0, if_neg h0, nI_clamp hk]
    have z : nI l.length = nI k ↔ l.length = k := nI_eq hl hk
    by_cases e : l.length = k
    · rw [if_pos (z.mpr e), ← e, List.getElem?_append_right (Nat.le_refl _), Nat.sub_self]
      rfl
    · rw [if_neg (fun q => e (z.mp q))]
      by_cases hkl : k < l.length
      · rw [List.getElem?_append_left hkl]
      · rw [List.getElem?_eq_none (by rw [List.length_append]; simp; omega), List.getElem?_eq_none (by omega)]
def wo_S (i : o_I) (y : Nat) (l : List Nat) (w : Int32) : Prop := i y 38 = nI l.length ∧ i y 39 = w ∧ i y 40 = wo_f l w
def wo_F (y : Nat) (i j : o_I) : Prop := ∀ a k, ¬ (a = y ∧ (k = 38 ∨ k = 40)) → j a k = i a k
theorem wo_F.trans {y : Nat} {i j q : o_I} (h : wo_F y i j) (h2 : wo_F y j q) : wo_F y i q := fun a k n => by rw [h2 a k n, h a k n]
theorem m_out {G : o_G} {d : Nat} {i : o_I} {r : o_R} {post : o_I → Prop} {y c : Nat} {l : List Nat} {w : Int32} (hm : ly_m G r y) (hS : wo_S i y l w) (hl : l.length < 2229) (h : ∀ j, wo_S j y (l ++ [c]) w → wo_F y i j → post j) : SpV G (d + 1) mX10_out [.ref y, .int (nI c)] post i r := by
  obtain ⟨h1, h2, h3⟩ := hS
  refine sp_of 0 (by decide +kernel) (Nat.le_of_ble_eq_true rfl) rfl (sX10_out_0 y _ ⟨hm.1, fun x3 e3 i4 f4 i5 f5 => o_rv (h i5 ⟨?_, ?_, ?_⟩ (fun a k n => ?_))⟩)
  · rw [f5, o_up_s, f4, o_up_k (by decide), h1, nI_1, List.length_append]
    rfl
  · rw [f5, o_up_k (by decide), f4, o_up_k (by decide)]
    exact h2
  · rw [f5, o_up_k (by decide), f4, o_up_s, e3, h1, h2, h3, wo_app (by omega)]
  · rw [f5, f4]
    by_cases e : a = y
    · rw [o_up_k (fun z => n ⟨e, Or.inl z⟩), o_up_k (fun z => n ⟨e, Or.inr z⟩)]
    · rw [o_up_a e, o_up_a e]
def tw_z (c : Nat) : List Nat := if c = 0 then [] else [c]
theorem m_outSix {G : o_G} {d : Nat} {i : o_I} {r : o_R} {post : o_I → Prop} {y a b c e f g : Nat} {l : List Nat} {w : Int32} (hm : ly_m G r y) (hb : b < 128) (hc : c < 128) (he : e < 128) (hf : f < 128) (hg : g < 128) (hS : wo_S i y l w) (hl : l.length + 6 ≤ 2229) (h : ∀ j, wo_S j y (l ++ ([a] ++ (tw_z b ++ (tw_z c ++ (tw_z e ++ (tw_z f ++ tw_z g)))))) w → wo_F y i j → post j) : SpV G (d + 2) mX10_outSix [.ref y, .int (nI a), .int (nI b), .int (nI c), .int (nI e), .int (nI f), .int (nI g)] post i r := by
  have z : ∀ q, q < 128 → (nI q ≤ 0 ↔ q = 0) := fun q hq => by
    have := nI_leI (a := q) (b := 0) (by omega) (by decide)
    constructor
    · intro w
      have := this.mp w
      omega
    · intro w
      exact this.mpr (by omega)
  have zl : ∀ q, (tw_z q).length ≤ 1 := fun q => by unfold tw_z; split <;> simp
  have z0 : ∀ q, q = 0 → tw_z q = [] := fun q hq => by unfold tw_z; rw [if_pos hq]
  have z1 : ∀ q, ¬ q = 0 → tw_z q = [q] := fun q hq => by unfold tw_z; rw [if_neg hq]
  have k45 : ∀ l2 j, l2.length ≤ 2228 → wo_S j y l2 w → wo_F y i j → (∀ j2, wo_S j2 y (l2 ++ tw_z g) w → wo_F y i j2 → post j2) → Ok G (d + 2) mX10_outSix (fun v j q => q = r ∧ v = none ∧ post j) 45 [some (.ref y), none, none, none, none, none, some (.int (nI g))] [] j r := by
    intro l2 j hl2 S F hk
    refine sX10_outSix_45 y _ ⟨fun q => o_rv (hk j ?_ F), fun q => ⟨hm.1, m_out hm S (by omega) (fun j2 S2 F2 => o_rv (hk j2 ?_ (F.trans F2)))⟩⟩
    · rw [z0 g ((z g hg).mp q), List.append_nil]
      exact S
    · rw [z1 g (fun u => q ((z g hg).mpr u))]
      exact S2
  have k34 : ∀ l2 j, l2.length ≤ 2227 → wo_S j y l2 w → wo_F y i j → (∀ j2, wo_S j2 y (l2 ++ (tw_z f ++ tw_z g)) w → wo_F y i j2 → post j2) → Ok G (d + 2) mX10_outSix (fun v j q => q = r ∧ v = none ∧ post j) 34 [some (.ref y), none, none, none, none, some (.int (nI f)), some (.int (nI g))] [] j r := by
    intro l2 j hl2 S F hk
    refine sX10_outSix_34 y _ _ ⟨fun q => k45 l2 j (by omega) S F (fun j2 S2 => hk j2 ?_), fun q => ⟨hm.1, m_out hm S (by omega) (fun j2 S2 F2 => k45 (l2 ++ [f]) j2 (by rw [List.length_append]; simp; omega) S2 (F.trans F2) (fun j3 S3 => hk j3 ?_))⟩⟩
    · rw [z0 f ((z f hf).mp q)]
      exact S2
    · rw [z1 f (fun u => q ((z f hf).mpr u)), ← List.append_assoc]
      exact S3
  have k23 : ∀ l2 j, l2.length ≤ 2226 → wo_S j y l2 w → wo_F y i j → (∀ j2, wo_S j2 y (l2 ++ (tw_z e ++ (tw_z f ++ tw_z g))) w → wo_F y i j2 → post j2) → Ok G (d + 2) mX10_outSix (fun v j q => q = r ∧ v = none ∧ post j) 23 [some (.ref y), none, none, none, some (.int (nI e)), some (.int (nI f)), some (.int (nI g))] [] j r := by
    intro l2 j hl2 S F hk
    refine sX10_outSix_23 y _ _ _ ⟨fun q => k34 l2 j (by omega) S F (fun j2 S2 => hk j2 ?_), fun q => ⟨hm.1, m_out hm S (by omega) (fun j2 S2 F2 => k34 (l2 ++ [e]) j2 (by rw [List.length_append]; simp; omega) S2 (F.trans F2) (fun j3 S3 => hk j3 ?_))⟩⟩
    · rw [z0 e ((z e he).mp q)]
      exact S2
    · rw [z1 e (fun u => q ((z e he).mpr u)), ← List.append_assoc]
      exact S3
  refine sp_of 0 (by decide +kernel) (Nat.le_of_ble_eq_true rfl) rfl (sX10_outSix_0 y _ _ _ _ _ _ ⟨hm.1, m_out hm hS (by omega) (fun j S F => ?_)⟩)
  have hla : (l ++ [a]).length = l.length + 1 := by rw [List.length_append]; rfl
  refine ⟨fun qb => ⟨fun qc => k23 _ j (by omega) S F (fun j2 S2 => h j2 ?_), fun qc => m_out hm S (by omega) (fun j2 S2 F2 => k23 _ j2 (by rw [List.length_append, hla]; simp; omega) S2 (F.trans F2) (fun j3 S3 => h j3 ?_))⟩, fun qb => m_out hm S (by omega) (fun j2 S2 F2 => ⟨fun qc => k23 _ j2 (by rw [List.length_append, hla]; simp; omega) S2 (F.trans F2) (fun j3 S3 => h j3 ?_), fun qc => m_out hm S2 (by rw [List.length_append, hla]; simp; omega) (fun j3 S3 F3 => k23 _ j3 (by rw [List.length_append, List.length_append, hla]; simp; omega) S3 (F.trans (F2.trans F3)) (fun j4 S4 => h j4 ?_))⟩)⟩
  · rw [z0 b ((z b hb).mp qb), z0 c ((z c hc).mp qc), ← List.append_assoc]
    exact S2
  · rw [z0 b ((z b hb).mp qb), z1 c (fun u => qc ((z c hc).mpr u)), ← List.append_assoc]
    simpa [List.append_assoc] using S3
  · rw [z1 b (fun u => qb ((z b hb).mpr u)), z0 c ((z c hc).mp qc)]
    simpa [List.append_assoc] using S3
  · rw [z1 b (fun u => qb ((z b hb).mpr u)), z1 c (fun u => qc ((z c hc).mpr u))]
    simpa [List.append_assoc] using S4
theorem m_outNumber {G : o_G} {d : Nat} {i : o_I} {r : o_R} {post : o_I → Prop} {y n : Nat} {l : List Nat} {w : Int32} (hm : ly_m G r y) (hS : wo_S i y l w) (hl : l.length + (tw_dg n).length ≤ 2229) (hn : n ≤ 999) (h : ∀ j, wo_S j y (l ++ tw_dg n) w → wo_F y i j → post j) : SpV G (d + 2) mX10_outNumber [.ref y, .int (nI n)] post i r := by
  have out : ∀ e l2 j, e ≤ 2 → l2.length + (e + 1) ≤ 2229 → l2 ++ tw_ds n e = l ++ tw_dg n → wo_S j y l2 w → wo_F y i j → Ok G (d + 2) mX10_outNumber (fun v j q => q = r ∧ v = none ∧ post j) 18 [some (.ref y), some (.int (nI n)), some (.int (nI (10 ^ e)))] [] j r := by
    intro e
    induction e with
    | zero =>
      intro l2 j he hl2 el S F
      refine sX10_outNumber_18 y _ _ ⟨fun w => absurd w (by decide), fun _ => ⟨by decide, hm.1, ?_⟩⟩
      have e1 : nI n / nI (10 ^ 0) = nI n := by rw [pk_div (by omega) (by decide) (by decide)]; congr 1; exact Nat.div_one n
      rw [e1, show nI n - nI n / 10 * 10 = nI (n % 10) from pk_rem (a := n) (d := 10) (by omega) (by decide) (by decide), show (48 : Int32) = nI 48 from rfl, nI_add]
      refine m_out hm S (by omega) (fun j2 S2 F2 x5 e5 => ?_)
      have e5 : x5 = 0 := by rw [e5]; decide
      rw [e5]
      refine sX10_outNumber_18 y _ _ ⟨fun _ => o_rv (h j2 ?_ (F.trans F2)), fun w => absurd (by decide) w⟩
      rw [← el]
      exact S2
    | succ e ih =>
      intro l2 j he hl2 el S F
      have hp : 0 < 10 ^ (e + 1) := Nat.pow_pos (by decide)
      have hp2 : 10 ^ (e + 1) ≤ 10 ^ 2 := Nat.pow_le_pow_right (by decide) he
      have hp3 : 10 ^ (e + 1) < 2 ^ 31 := by omega
      have z0 : nI (10 ^ (e + 1)) ≤ 0 ↔ 10 ^ (e + 1) ≤ 0 := nI_leI (b := 0) hp3 (by decide)
      have z1 : nI (10 ^ (e + 1)) = 0 ↔ 10 ^ (e + 1) = 0 := nI_eq (b := 0) hp3 (by decide)
      refine sX10_outNumber_18 y _ _ ⟨fun w => absurd (z0.mp w) (by omega), fun _ => ⟨fun w => absurd (z1.mp w) (by omega), hm.1, ?_⟩⟩
      have hq : n / 10 ^ (e + 1) ≤ n := Nat.div_le_self _ _
      rw [pk_div (by omega) hp hp3, show nI (n / 10 ^ (e + 1)) - nI (n / 10 ^ (e + 1)) / 10 * 10 = nI (n / 10 ^ (e + 1) % 10) from pk_rem (a := n / 10 ^ (e + 1)) (d := 10) (by omega) (by decide) (by decide), show (48 : Int32) = nI 48 from rfl, nI_add]
      refine m_out hm S (by omega) (fun j2 S2 F2 x5 e5 => ?_)
      have e5 : x5 = nI (10 ^ e) := by
        rw [e5, show (10 : Int32) = nI 10 from rfl, pk_div hp3 (by decide) (by decide)]
        congr 1
        rw [Nat.pow_succ, Nat.mul_div_cancel _ (by decide)]
      rw [e5]
      refine ih (l2 ++ [48 + n / 10 ^ (e + 1) % 10]) j2 (by omega) (by rw [List.length_append]; simp; omega) ?_ S2 (F.trans F2)
      rw [← el, List.append_assoc]
      rfl
  have fin : ∀ e, e = tw_e n → e ≤ 2 → Ok G (d + 2) mX10_outNumber (fun v j q => q = r ∧ v = none ∧ post j) 18 [some (.ref y), some (.int (nI n)), some (.int (nI (10 ^ e)))] [] i r := fun e he h2 => by
    refine out e l i h2 ?_ (by rw [he]; rfl) hS (fun _ _ _ => rfl)
    have := tw_ds_len n (tw_e n)
    unfold tw_dg at hl
    omega
  have ed : nI n / 10 = nI (n / 10) := pk_div (a := n) (d := 10) (by omega) (by decide) (by decide)
  have go : ∀ e, e ≤ 2 → (n / 10 < 10 ^ e → e = tw_e n) → (¬ n / 10 < 10 ^ e → e < 2 ∧ Ok G (d + 2) mX10_outNumber (fun v j q => q = r ∧ v = none ∧ post j) 2 [some (.ref y), some (.int (nI n)), some (.int (nI (10 ^ (e + 1))))] [] i r) → Ok G (d + 2) mX10_outNumber (fun v j q => q = r ∧ v = none ∧ post j) 2 [some (.ref y), some (.int (nI n)), some (.int (nI (10 ^ e)))] [] i r := by
    intro e he h1 h2
    have hp2 : 10 ^ e ≤ 10 ^ 2 := Nat.pow_le_pow_right (by decide) he
    have hz : nI (n / 10) < nI (10 ^ e) ↔ n / 10 < 10 ^ e := nI_ltI (by omega) (by omega)
    refine sX10_outNumber_2 y _ _ ?_
    rw [ed]
    refine ⟨fun w => fin e (h1 (hz.mp w)) he, fun w x3 e3 => ?_⟩
    rw [e3, show (10 : Int32) = nI 10 from rfl, pk_mul, ← Nat.pow_succ]
    exact (h2 (fun z => w (hz.mpr z))).2
  refine sp_of 1 (by decide +kernel) (Nat.le_of_ble_eq_true rfl) rfl (sX10_outNumber_0 y _ ?_)
  unfold tw_e at go
  refine go 0 (by decide) (fun w => ?_) (fun w0 => ⟨by decide, go 1 (by decide) (fun w => ?_) (fun w1 => ⟨by decide, go 2 (by decide) (fun w => ?_) (fun w2 => absurd ?_ w2)⟩)⟩)
  · rw [if_pos (by omega)]
  · rw [if_neg (by omega), if_pos (by omega)]
  · rw [if_neg (by omega), if_neg (by omega)]
  · omega
theorem m_outBase {G : o_G} {d : Nat} {i : o_I} {r : o_R} {post : o_I → Prop} {y c : Nat} {l : List Nat} {w : Int32} (hm : ly_m G r y) (hc : c < 4) (hS : wo_S i y l w) (hl : l.length < 2229) (h : ∀ j, wo_S j y (l ++ [tw_b c]) w → wo_F y i j → post j) : SpV G (d + 2) mX10_outBase [.ref y, .int (nI c)] post i r := by
  refine sp_of 0 (by decide +kernel) (Nat.le_of_ble_eq_true rfl) rfl (sX10_outBase_0 y _ (fun x4 e4 => ⟨hm.1, ?_⟩))
  have : x4 = nI (tw_b c) := by
    rw [e4]
    rcases (show c = 0 ∨ c = 1 ∨ c = 2 ∨ c = 3 by omega) with rfl | rfl | rfl | rfl <;> decide
  rw [this]
  exact m_out hm hS hl (fun j S F => o_rv (h j S F))
/-- the reference's name and bases -/
def mn_S (i : o_I) (y : Nat) (nm : List Nat) (len : Nat) (f : Nat → Nat) : Prop := (i y 4 = nI nm.length ∧ nm.length ≤ 8 ∧ ∀ k c, nm[k]? = some c → c < 128 ∧ i (y + 4) k = nI c) ∧ i y 2 = nI len ∧ len ≤ 48 ∧ ∀ p, p < len → f p < 4 ∧ i (y + 3) p = nI (f p)
theorem mn_F {i j : o_I} {y : Nat} {nm : List Nat} {len : Nat} {f : Nat → Nat} (h : mn_S i y nm len f) (hF : wo_F y i j) : mn_S j y nm len f := ⟨⟨by rw [hF _ _ (by omega)]; exact h.1.1, h.1.2.1, fun k c hk => by rw [hF _ _ (by omega)]; exact h.1.2.2 k c hk⟩, by rw [hF _ _ (by omega)]; exact h.2.1, h.2.2.1, fun p hp => by rw [hF _ _ (by omega)]; exact h.2.2.2 p hp⟩
theorem m_outBases {G : o_G} {d : Nat} {i : o_I} {r : o_R} {post : o_I → Prop} {y lo n hi len : Nat} {nm l : List Nat} {f : Nat → Nat} {w : Int32} (hm : ly_m G r y) (hN : mn_S i y nm len f) (hhi : hi + 1 = lo + n) (hlen : lo + n ≤ len) (hS : wo_S i y l w) (hl : l.length + (tw_bs f lo n).length ≤ 2229) (h : ∀ j, wo_S j y (l ++ tw_bs f lo n) w → wo_F y i j → post j) : SpV G (d + 3) mX10_outBases [.ref y, .int (nI lo), .int (nI hi)] post i r := by
  obtain ⟨e2, Z2⟩ := hm.2 3 3 1 48 rfl (by decide)
  have h48 := hN.2.2.1
  have loop : ∀ m p l2 j, p + m = lo + n → l2 ++ tw_bs f p m = l ++ tw_bs f lo n → wo_S j y l2 w → wo_F y i j → Ok G (d + 3) mX10_outBases (fun v j q => q = r ∧ v = none ∧ post j) 2 [some (.ref y), none, some (.int (nI hi)), some (.int (nI p))] [] j r := by
    intro m
    induction m with
    | zero =>
      intro p l2 j hp el S F
      refine sX10_outBases_2 y _ _ ⟨fun _ => o_rv (h j ?_ F), fun w => absurd (nI_lt (a := hi) (b := p) (by omega) (by omega)) w⟩
      rw [← el]
      show wo_S j y (l2 ++ []) w
      rw [List.append_nil]
      exact S
    | succ m ih =>
      intro p l2 j hp el S F
      have N := mn_F hN F
      obtain ⟨b1, b2⟩ := N.2.2.2 p (by omega)
      refine sX10_outBases_2 y _ _ ⟨fun w => absurd w (nI_nlt (by omega) (by omega)), fun _ => ⟨hm.1, ?_⟩⟩
      rw [e2, Z2.len, nI_clamp (n := p) (by omega), b2]
      have el2 : l2 ++ ([tw_b (f p)] ++ tw_bs f (p + 1) m) = l ++ tw_bs f lo n := el
      refine ⟨Z2.Y, vp_in_nI (by omega) (by decide), m_outBase hm b1 S (tw_lt el2 (by rw [List.length_append]; exact hl)) (fun j2 S2 F2 x12 e12 => ?_)⟩
      rw [e12, nI_1]
      exact ih (p + 1) _ j2 (by omega) (tw_nx el2) S2 (F.trans F2)
  exact sp_of 1 (by decide +kernel) (Nat.le_of_ble_eq_true rfl) rfl (sX10_outBases_0 y _ _ (loop n lo l i rfl rfl hS (fun _ _ _ => rfl)))

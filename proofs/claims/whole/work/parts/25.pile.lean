/-! THE PILE: sites, gather -/
def ly_st (G : o_G) (r : o_R) (st : Nat) : Prop := o_O G st 7 ∧ r st 0 = st + 1 ∧ o_Z G (st + 1) 1 8 ∧ r st 1 = st + 2 ∧ o_Z G (st + 2) 1 8
def st_S (i : o_I) (st : Nat) (l : List (Int32 × Int32)) : Prop := i st 2 = nI l.length ∧ l.length ≤ 8 ∧ ∀ k o, l[k]? = some o → i (st + 1) k = o.1 ∧ i (st + 2) k = o.2
theorem st_same {i j : o_I} {st : Nat} {l : List (Int32 × Int32)} (h : st_S i st l) (e : ∀ a k, a = st ∨ a = st + 1 ∨ a = st + 2 → j a k = i a k) : st_S j st l := by
  obtain ⟨h1, h2, h3⟩ := h
  exact ⟨by rw [e _ _ (Or.inl rfl)]; exact h1, h2, fun k o hk => by rw [e _ _ (Or.inr (Or.inl rfl)), e _ _ (Or.inr (Or.inr rfl))]; exact h3 k o hk⟩
theorem c_add {G : o_G} {d : Nat} {i : o_I} {r : o_R} {post : o_I → Prop} {st : Nat} {l : List (Int32 × Int32)} {x q : Int32} (hst : ly_st G r st) (hS : st_S i st l) (h7 : l.length ≤ 7) (h : ∀ j, st_S j st (l ++ [(x, q)]) → (∀ a k, a ≠ st → a ≠ st + 1 → a ≠ st + 2 → j a k = i a k) → post j) : SpV G (d + 1) mX7_add [.ref st, .int x, .int q] post i r := by
  obtain ⟨hO, e0, Z0, e1, Z1⟩ := hst
  obtain ⟨h1, h2, h3⟩ := hS
  refine sp_of 0 (by decide +kernel) (Nat.le_of_ble_eq_true rfl) rfl (sX7_add_0 st x q ?_)
  rw [h1, e0, e1, Z0.len, Z1.len, nI_clamp (by omega)]
  refine ⟨hO, fun h8 => absurd h8 (nI_ge (b := 8) (by omega) (by decide)), fun _ => ⟨Z0.Y, vp_in_nI (by omega) (by decide), fun i5 e5 => ⟨Z1.Y, ?_, fun i8 e8 i9 e9 => o_rv (h i9 ⟨?_, ?_, fun k o hk => ?_⟩ (fun a k a1 a2 a3 => ?_))⟩⟩⟩
  · rw [e5, o_up_a (by omega), h1]
    exact vp_in_nI (by omega) (by decide)
  · rw [e9, o_up_s, e8, o_up_a (by omega), e5, o_up_a (by omega), h1, nI_1, List.length_append]
    rfl
  · rw [List.length_append]
    simp
    omega
  · have v5 : i5 st 2 = nI l.length := by rw [e5, o_up_a (by omega)]; exact h1
    rw [v5, nI_clamp (by omega)] at e8
    rw [e9, o_up_a (by omega), o_up_a (by omega), e8, o_up_a (by omega)]
    by_cases ek : k = l.length
    · subst ek
      rw [List.getElem?_append_right (Nat.le_refl _), Nat.sub_self] at hk
      cases hk
      exact ⟨by rw [e5, o_up_s], by rw [o_up_s]⟩
    · have hkl : k < l.length := by
        have := (List.getElem?_eq_some_iff.mp hk).1
        rw [List.length_append] at this
        simp at this
        omega
      rw [List.getElem?_append_left hkl] at hk
      rw [o_up_k ek, e5, o_up_k ek, o_up_a (by omega)]
      exact h3 k o hk
  · rw [e9, o_up_a a1, e8, o_up_a a3, e5, o_up_a a2]
theorem c_step {G : o_G} {d : Nat} {i : o_I} {r : o_R} {post : Int32 → o_I → Prop} {rd : Nat} {T : List Nat} {v : Int32} (hr : ly_rd G r rd) (hS : sc_S i rd T) (hT : T.length ≤ 19) (h0 : v < 0 ∨ nI T.length ≤ v → post 0 i) (h1 : ∀ k, k < T.length → v = nI k → post (nI (T.getD (T.length - 1 - k) 0)) i) : SpI G (d + 1) mX5_stepFromFront [.ref rd, .int v] post i r := by
  obtain ⟨hO, -, -, -, -, e8, Z8⟩ := hr
  refine sp_of 0 (by decide +kernel) (Nat.le_of_ble_eq_true rfl) rfl (sX5_stepFromFront_0 rd v ?_)
  rw [hS.1, e8, Z8.len]
  rcases pk_ix v (n := T.length) (by omega) with hv | hv | ⟨k, hk, hv⟩
  · refine ⟨⟨fun _ => trivial, fun hn => absurd hv hn⟩, fun x hx => ?_⟩
    rw [hx, if_pos hv]
    exact o_ri (h0 (Or.inl hv))
  · have hn0 : ¬ v < 0 := fun z => Int32.lt_irrefl (Int32.lt_of_lt_of_le (Int32.lt_of_le_of_lt hv z) (nI_pos' (n := T.length) (by omega)))
    have hnl : ¬ v < nI T.length := Int32.not_lt.mpr hv
    refine ⟨⟨fun hn => absurd hn hn0, fun _ => ⟨hO, fun hl => absurd hl hnl, fun _ => trivial⟩⟩, fun x hx => ?_⟩
    rw [hx, if_neg hn0, if_neg hnl]
    exact o_ri (h0 (Or.inr hv))
  · subst hv
    rw [nI_m1 (by omega), pk_sub (by omega), nI_clamp (by omega)]
    refine ⟨⟨fun hn => absurd hn (nI_pos (by omega)), fun _ => ⟨hO, fun _ => ⟨Z8.Y, vp_in_nI (by omega) (by decide), trivial⟩, fun _ => trivial⟩⟩, fun x hx => ?_⟩
    rw [hx, if_neg (nI_pos (by omega)), if_pos (nI_lt hk (by omega)), hS.2 _ (by omega)]
    exact o_ri (h1 k hk rfl)
theorem c_withLetter {G : o_G} {d : Nat} {i : o_I} {r : o_R} {post : Int32 → o_I → Prop} {pin v : Nat} (hp : pin ≤ 1000) (hv : v ≤ 4) (h : post (nI (wt_wl pin (nI v))) i) : SpI G (d + 1) mX4_withLetter [.int (nI pin), .int (nI v)] post i r := by
  refine sp_of 0 (by decide +kernel) (Nat.le_of_ble_eq_true rfl) rfl (sX4_withLetter_0 _ _ (fun x hx => ?_))
  have e : x = nI (wt_wl pin (nI v)) := by
    rw [hx]
    unfold wt_wl
    have z0 : nI pin = 0 ↔ pin = 0 := nI_eq (b := 0) (by omega) (by decide)
    by_cases h1 : pin = 0
    · rw [if_pos (z0.mpr h1), if_pos (Or.inl h1)]
      rfl
    · rw [if_neg (fun z => h1 (z0.mp z))]
      by_cases h2 : nI v = 4
      · rw [if_pos h2, if_pos (Or.inr h2)]
        rfl
      · rw [if_neg h2, if_neg (by rintro (z | z); exact h1 z; exact h2 z), nI_clamp (by omega), show nI pin * 4 = nI (pin * 4) from pk_mul pin 4, nI_add]
  rw [e]
  exact o_ri h
def lk_I (g : Option Nat) : Int32 := match g with
  | none => -1
  | some g => nI g
theorem c_linkOf {G : o_G} {d : Nat} {i : o_I} {r : o_R} {post : Int32 → o_I → Prop} {lo pin : Nat} (hl : lo ≤ 1000) (hp : pin ≤ 1000) (h : post (lk_I (wt_lk lo pin)) i) : SpI G (d + 1) mX4_linkOf [.int (nI lo), .int (nI pin)] post i r := by
  have z0 : nI pin = 0 ↔ pin = 0 := nI_eq (b := 0) (by omega) (by decide)
  have z1 : nI pin = 1 ↔ pin = 1 := nI_eq (b := 1) (by omega) (by decide)
  have zl : (0 : Int32) < nI lo ↔ 0 < lo := nI_ltI (a := 0) (by decide) (by omega)
  unfold wt_lk at h
  refine sp_of 0 (by decide +kernel) (Nat.le_of_ble_eq_true rfl) rfl (sX4_linkOf_0 _ _ ⟨fun h1 x hx => ?_, fun h1 => ?_⟩)
  · rw [if_neg (fun z => h1 (z1.mpr z))] at h
    by_cases h2 : 0 < lo
    · rw [if_pos (Or.inl h2)] at h
      rw [hx, if_pos (zl.mpr h2)]
      exact o_ri h
    · rw [if_neg (fun z => h2 (zl.mp z))] at hx
      by_cases h3 : pin = 0
      · rw [if_pos (Or.inr h3)] at h
        rw [hx, if_pos (z0.mpr h3)]
        exact o_ri h
      · rw [if_neg (by omega)] at h
        rw [hx, if_neg (fun z => h3 (z0.mp z))]
        exact o_ri h
  · rw [if_pos (z1.mp h1)] at h
    exact o_ri h
/-- the pile's cells, and what they hold -/
def ly_pi (G : o_G) (r : o_R) (pi : Nat) : Prop := o_O G pi 4 ∧ r pi 0 = pi + 1 ∧ o_Z G (pi + 1) 5 48 ∧ r pi 1 = pi + 2 ∧ o_Z G (pi + 2) 5 48 ∧ ∀ p, p < 48 → r (pi + 1) p = pi + 3 + 6 * p ∧ r (pi + 2) p = pi + 6 + 6 * p ∧ ly_st G r (pi + 3 + 6 * p) ∧ ly_st G r (pi + 6 + 6 * p)
def pi_S (i : o_I) (pi : Nat) (B : List ob_B) (K : List ob_K) : Prop := ∀ p, p < 48 → st_S i (pi + 3 + 6 * p) (at_B p B) ∧ st_S i (pi + 6 + 6 * p) (at_K p K)
def pi_F (pi : Nat) (i j : o_I) : Prop := ∀ a k, (a < pi ∨ pi + 291 ≤ a) → j a k = i a k
theorem c_gatherBase {G : o_G} {d : Nat} {i : o_I} {r : o_R} {post : o_I → Prop} {pi rd a p : Nat} {B : List ob_B} {K : List ob_K} (hpi : ly_pi G r pi) (hr : ly_rd G r rd) (hd : pi + 291 ≤ rd) (hS : pi_S i pi B K) (ha : a < 16) (hp : p < 48) (h7 : (at_B p B).length ≤ 7)
    (h : ∀ j, pi_S j pi (B ++ wt_b1 (i (rd + 1)) (i (rd + 2)) a p) K → pi_F pi i j → post j) : SpV G (d + 2) mX4_gatherBase [.ref pi, .ref rd, .int (nI a), .int (nI p)] post i r := by
  obtain ⟨hO, e0, Z0, e1, Z1, hst⟩ := hpi
  obtain ⟨hOr, r0, Y0, r1, Y1, -⟩ := hr
  obtain ⟨s0, s1, t0, t1⟩ := hst p hp
  refine sp_of 0 (by decide +kernel) (Nat.le_of_ble_eq_true rfl) rfl (sX4_gatherBase_0 pi rd _ _ ?_)
  rw [r0, r1, e0, Y0.len, Y1.len, Z0.len, nI_clamp (n := a) (by omega), nI_clamp (n := p) (by omega), s0]
  refine ⟨hOr, Y0.Y, vp_in_nI (by omega) (by decide), fun h4 => o_rv (h i ?_ (fun _ _ _ => rfl)), fun h4 => ⟨hO, Z0.Y, vp_in_nI (by omega) (by decide), Y1.Y, vp_in_nI (by omega) (by decide), t0.1, c_add t0 (hS p hp).1 h7 (fun j a1 a2 => o_rv (h j (fun q hq => ?_) (fun b k hb => a2 b k (by omega) (by omega) (by omega))))⟩⟩
  · unfold wt_b1
    rw [if_pos h4, List.append_nil]
    exact hS
  · unfold wt_b1
    rw [if_neg h4, at_B_app]
    by_cases e : q = p
    · subst e
      refine ⟨?_, st_same (hS q hq).2 (fun b k hb => a2 b k (by omega) (by omega) (by omega))⟩
      have : at_B q [(q, i (rd + 1) a, i (rd + 2) a)] = [(i (rd + 1) a, i (rd + 2) a)] := by simp [at_B]
      rw [this]
      exact a1
    · have : at_B q [(p, i (rd + 1) a, i (rd + 2) a)] = [] := at_B_no (fun o ho => by rw [List.mem_singleton.mp ho]; exact fun z => e z.symm)
      rw [this, List.append_nil]
      exact ⟨st_same (hS q hq).1 (fun b k hb => a2 b k (by omega) (by omega) (by omega)), st_same (hS q hq).2 (fun b k hb => a2 b k (by omega) (by omega) (by omega))⟩
def lk_L (p : Nat) (q : Int32) : Option Nat → List ob_K
  | none => []
  | some n => [(p, n, q)]
theorem c_gatherLink {G : o_G} {d : Nat} {i : o_I} {r : o_R} {post : o_I → Prop} {pi p : Nat} {g : Option Nat} {q : Int32} {B : List ob_B} {K : List ob_K} (hpi : ly_pi G r pi) (hS : pi_S i pi B K) (hp : p < 48) (hg : ∀ n, g = some n → n ≤ 1000) (h7 : (at_K p K).length ≤ 7)
    (h : ∀ j, pi_S j pi B (K ++ lk_L p q g) → pi_F pi i j → post j) : SpV G (d + 2) mX4_gatherLink [.ref pi, .int (nI p), .int (lk_I g), .int q] post i r := by
  obtain ⟨hO, e0, Z0, e1, Z1, hst⟩ := hpi
  obtain ⟨s0, s1, t0, t1⟩ := hst p hp
  refine sp_of 0 (by decide +kernel) (Nat.le_of_ble_eq_true rfl) rfl (sX4_gatherLink_0 pi _ _ _ ?_)
  rw [e1, Z1.len, nI_clamp (n := p) (by omega), s1]
  match g, hg, h with
  | none, hg, h => exact ⟨fun _ => o_rv (h i (by show pi_S i pi B (K ++ []); rw [List.append_nil]; exact hS) (fun _ _ _ => rfl)), fun hn => absurd rfl hn⟩
  | some n, hg, h =>
    have hn := hg n rfl
    refine ⟨fun hm => ?_, fun _ => ⟨hO, Z1.Y, vp_in_nI (by omega) (by decide), t1.1, c_add t1 (hS p hp).2 h7 (fun j a1 a2 => o_rv (h j (fun z hz => ?_) (fun b k hb => a2 b k (by omega) (by omega) (by omega))))⟩⟩
    · have : nI n = -1 := hm
      exact absurd (this ▸ nI_pos' (n := n) (by omega)) (by decide)
    · show st_S j _ _ ∧ st_S j _ (at_K z (K ++ [(p, n, q)]))
      rw [at_K_app]
      by_cases e : z = p
      · subst e
        refine ⟨st_same (hS z hz).1 (fun b k hb => a2 b k (by omega) (by omega) (by omega)), ?_⟩
        have : at_K z [(z, n, q)] = [(nI n, q)] := by simp [at_K]
        rw [this]
        exact a1
      · have : at_K z [(p, n, q)] = [] := at_K_no (fun o ho => by rw [List.mem_singleton.mp ho]; exact fun w => e w.symm)
        rw [this, List.append_nil]
        exact ⟨st_same (hS z hz).1 (fun b k hb => a2 b k (by omega) (by omega) (by omega)), st_same (hS z hz).2 (fun b k hb => a2 b k (by omega) (by omega) (by omega))⟩

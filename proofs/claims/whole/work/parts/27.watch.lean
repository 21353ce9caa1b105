/-! THE REFERENCE: seeBase, link, watch -/
/-- the reference's number of a link -/
def mc (g : Nat) : Nat := if g < 4 then g else if g < 16 then g - 4 + 10 else if g < 64 then g - 16 + 20 else g - 64 + 40
def mb_S (i : o_I) (y : Nat) (B : List ob_B) : Prop := i y 20 = nI B.length ∧ B.length ≤ 128 ∧ ∀ k o, B[k]? = some o → i (y + 18) k = nI o.1 ∧ i (y + 19) k = o.2.1 ∧ i (y + 20) k = o.2.2
def mk_S (i : o_I) (y : Nat) (K : List ob_K) : Prop := i y 24 = nI K.length ∧ K.length ≤ 128 ∧ ∀ k o, K[k]? = some o → i (y + 21) k = nI o.1 ∧ i (y + 22) k = nI (mc o.2.1) ∧ i (y + 23) k = o.2.2
theorem mb_same {i j : o_I} {y : Nat} {B : List ob_B} (h : mb_S i y B) (e0 : j y 20 = i y 20) (e : ∀ a k, y + 18 ≤ a → a ≤ y + 20 → j a k = i a k) : mb_S j y B := ⟨by rw [e0]; exact h.1, h.2.1, fun k o hk => by rw [e _ _ (by omega) (by omega), e _ _ (by omega) (by omega), e _ _ (by omega) (by omega)]; exact h.2.2 k o hk⟩
theorem mk_same {i j : o_I} {y : Nat} {K : List ob_K} (h : mk_S i y K) (e0 : j y 24 = i y 24) (e : ∀ a k, y + 21 ≤ a → a ≤ y + 23 → j a k = i a k) : mk_S j y K := ⟨by rw [e0]; exact h.1, h.2.1, fun k o hk => by rw [e _ _ (by omega) (by omega), e _ _ (by omega) (by omega), e _ _ (by omega) (by omega)]; exact h.2.2 k o hk⟩
theorem m_seeBase {G : o_G} {d : Nat} {i : o_I} {r : o_R} {post : o_I → Prop} {y p : Nat} {x q : Int32} {B : List ob_B} (hm : ly_m G r y) (hB : mb_S i y B) (h127 : B.length ≤ 127) (h : ∀ j, mb_S j y (B ++ [(p, x, q)]) → (∀ a k, ¬ (a = y ∧ k = 20) → (a < y + 18 ∨ y + 20 < a) → j a k = i a k) → post j) : SpV G (d + 1) mX10_seeBase [.ref y, .int (nI p), .int x, .int q] post i r := by
  obtain ⟨e1, Z1⟩ := hm.2 21 18 1 128 rfl (by decide)
  obtain ⟨e2, Z2⟩ := hm.2 22 19 1 128 rfl (by decide)
  obtain ⟨e3, Z3⟩ := hm.2 23 20 1 128 rfl (by decide)
  obtain ⟨h1, h2, h3⟩ := hB
  refine sp_of 0 (by decide +kernel) (Nat.le_of_ble_eq_true rfl) rfl (sX10_seeBase_0 y _ _ _ ?_)
  rw [e1, e2, e3, Z1.len, Z2.len, Z3.len, h1, nI_clamp (by omega)]
  refine ⟨hm.1, Z1.Y, vp_in_nI (by omega) (by decide), fun i4 f4 => ?_⟩
  have c4 : i4 y 20 = nI B.length := by rw [f4, o_up_a (by omega)]; exact h1
  rw [c4, nI_clamp (by omega)]
  refine ⟨Z2.Y, vp_in_nI (by omega) (by decide), fun i7 f7 => ?_⟩
  have c7 : i7 y 20 = nI B.length := by rw [f7, o_up_a (by omega)]; exact c4
  rw [c7, nI_clamp (by omega)]
  refine ⟨Z3.Y, vp_in_nI (by omega) (by decide), fun i10 f10 i11 f11 => o_rv (h i11 ⟨?_, ?_, fun k o hk => ?_⟩ (fun a k a1 a2 => ?_))⟩
  · rw [f11, o_up_s, f10, o_up_a (by omega), c7, nI_1, List.length_append]
    rfl
  · rw [List.length_append]
    simp
    omega
  · rw [f11, o_up_a (by omega), o_up_a (by omega), o_up_a (by omega), f10, o_up_a (by omega), o_up_a (by omega), f7, o_up_a (by omega), f4]
    by_cases ek : k = B.length
    · subst ek
      rw [List.getElem?_append_right (Nat.le_refl _), Nat.sub_self] at hk
      cases hk
      exact ⟨by rw [o_up_s], by rw [o_up_s], by rw [o_up_s]⟩
    · have hkl : k < B.length := by
        have := (List.getElem?_eq_some_iff.mp hk).1
        rw [List.length_append] at this
        simp at this
        omega
      rw [List.getElem?_append_left hkl] at hk
      have q := h3 k o hk
      exact ⟨by rw [o_up_k ek]; exact q.1, by rw [o_up_k ek, o_up_a (by omega)]; exact q.2.1, by rw [o_up_k ek, o_up_a (by omega), o_up_a (by omega)]; exact q.2.2⟩
  · have k1 : i11 a k = i10 a k := by
      rw [f11]
      by_cases e : a = y
      · rw [o_up_k (fun z => a1 ⟨e, z⟩)]
      · rw [o_up_a e]
    rw [k1, f10, o_up_a (by omega), f7, o_up_a (by omega), f4, o_up_a (by omega)]
theorem m_link {G : o_G} {d : Nat} {i : o_I} {r : o_R} {post : o_I → Prop} {y p g : Nat} {x q : Int32} {K : List ob_K} (hm : ly_m G r y) (hK : mk_S i y K) (h127 : K.length ≤ 127) (hx : x = nI (mc g)) (h : ∀ j, mk_S j y (K ++ [(p, g, q)]) → (∀ a k, ¬ (a = y ∧ k = 24) → (a < y + 21 ∨ y + 23 < a) → j a k = i a k) → post j) : SpV G (d + 1) mX10_link [.ref y, .int (nI p), .int x, .int q] post i r := by
  obtain ⟨e1, Z1⟩ := hm.2 25 21 1 128 rfl (by decide)
  obtain ⟨e2, Z2⟩ := hm.2 26 22 1 128 rfl (by decide)
  obtain ⟨e3, Z3⟩ := hm.2 27 23 1 128 rfl (by decide)
  obtain ⟨h1, h2, h3⟩ := hK
  refine sp_of 0 (by decide +kernel) (Nat.le_of_ble_eq_true rfl) rfl (sX10_link_0 y _ _ _ ?_)
  rw [e1, e2, e3, Z1.len, Z2.len, Z3.len, h1, nI_clamp (by omega)]
  refine ⟨hm.1, Z1.Y, vp_in_nI (by omega) (by decide), fun i4 f4 => ?_⟩
  have c4 : i4 y 24 = nI K.length := by rw [f4, o_up_a (by omega)]; exact h1
  rw [c4, nI_clamp (by omega)]
  refine ⟨Z2.Y, vp_in_nI (by omega) (by decide), fun i7 f7 => ?_⟩
  have c7 : i7 y 24 = nI K.length := by rw [f7, o_up_a (by omega)]; exact c4
  rw [c7, nI_clamp (by omega)]
  refine ⟨Z3.Y, vp_in_nI (by omega) (by decide), fun i10 f10 i11 f11 => o_rv (h i11 ⟨?_, ?_, fun k o hk => ?_⟩ (fun a k a1 a2 => ?_))⟩
  · rw [f11, o_up_s, f10, o_up_a (by omega), c7, nI_1, List.length_append]
    rfl
  · rw [List.length_append]
    simp
    omega
  · rw [f11, o_up_a (by omega), o_up_a (by omega), o_up_a (by omega), f10, o_up_a (by omega), o_up_a (by omega), f7, o_up_a (by omega), f4]
    by_cases ek : k = K.length
    · subst ek
      rw [List.getElem?_append_right (Nat.le_refl _), Nat.sub_self] at hk
      cases hk
      exact ⟨by rw [o_up_s], by rw [o_up_s]; exact hx, by rw [o_up_s]⟩
    · have hkl : k < K.length := by
        have := (List.getElem?_eq_some_iff.mp hk).1
        rw [List.length_append] at this
        simp at this
        omega
      rw [List.getElem?_append_left hkl] at hk
      have q := h3 k o hk
      exact ⟨by rw [o_up_k ek]; exact q.1, by rw [o_up_k ek, o_up_a (by omega)]; exact q.2.1, by rw [o_up_k ek, o_up_a (by omega), o_up_a (by omega)]; exact q.2.2⟩
  · have k1 : i11 a k = i10 a k := by
      rw [f11]
      by_cases e : a = y
      · rw [o_up_k (fun z => a1 ⟨e, z⟩)]
      · rw [o_up_a e]
    rw [k1, f10, o_up_a (by omega), f7, o_up_a (by omega), f4, o_up_a (by omega)]
/-- the letters put in, as the reference counts them: how many, their digits, whether all are bases -/
def mw_P (ni dg cl pin : Nat) : Prop := dg < 4 ^ ni ∧ ((cl = 1 ∧ pin = 4 ^ ni + dg) ∨ (cl = 0 ∧ pin = 0 ∧ 0 < ni))
/-- the last match as the reference holds it -/
def mw_L (Q : Nat → Int32) (v4 v5 : Int32) (p : Nat) : Option (Nat × Nat) → Prop
  | none => v4 = -1
  | some (a0, p0) => v4 = nI p0 ∧ v5 = Q a0 ∧ p0 < p
theorem mc_gain {ni dg pin : Nat} (h0 : 0 < ni) (h3 : ni ≤ 3) (hdg : dg < 4 ^ ni) (hp : pin = 4 ^ ni + dg) : (if nI ni = 1 then (10 + nI dg) else (if nI ni = 2 then (20 + nI dg) else (40 + nI dg))) = nI (mc pin) := by
  unfold mc
  rcases (show ni = 1 ∨ ni = 2 ∨ ni = 3 by omega) with rfl | rfl | rfl
  · have hdg : dg < 4 := hdg
    have hp : pin = 4 + dg := hp
    rw [if_pos (by decide), if_neg (by omega), if_pos (by omega), show (10 : Int32) = nI 10 from rfl, nI_add]
    congr 1
    omega
  · have hdg : dg < 16 := hdg
    have hp : pin = 16 + dg := hp
    rw [if_neg (by decide), if_pos (by decide), if_neg (by omega), if_neg (by omega), if_pos (by omega), show (20 : Int32) = nI 20 from rfl, nI_add]
    congr 1
    omega
  · have hdg : dg < 64 := hdg
    have hp : pin = 64 + dg := hp
    rw [if_neg (by decide), if_neg (by decide), if_neg (by omega), if_neg (by omega), if_neg (by omega), show (40 : Int32) = nI 40 from rfl, nI_add]
    congr 1
    omega
theorem m_gainOf {G : o_G} {d : Nat} {i : o_I} {r : o_R} {post : Int32 → o_I → Prop} {v0 v1 : Int32} (h : post (if v0 = 1 then (10 + v1) else (if v0 = 2 then (20 + v1) else (40 + v1))) i) : SpI G (d + 1) mX10_gainOf [.int v0, .int v1] post i r := by
  refine sp_of 0 (by decide +kernel) (Nat.le_of_ble_eq_true rfl) rfl (sX10_gainOf_0 _ _ (fun x5 e5 => ?_))
  rw [e5]
  exact o_ri h
theorem m_links {G : o_G} {d : Nat} {r : o_R} {P : o_P} {y q a p lo pin ni dg cl m : Nat} {v4 v5 v11 : Int32} {Q : Nat → Int32} {last : Option (Nat × Nat)} {K : List ob_K} {j : o_I} (hm : ly_m G r y) (hK : mk_S j y K) (h127 : K.length ≤ 127) (hl : mw_L Q v4 v5 p last) (hp : p ≤ 48) (hw : mw_P ni dg cl pin) (hni : ni ≤ 3) (hlo : lo ≤ 3)
    (h : ∀ j2, mk_S j2 y (K ++ wt_one Q a last lo pin) → (∀ a k, ¬ (a = y ∧ k = 24) → (a < y + 21 ∨ y + 23 < a) → j2 a k = j a k) → Ok G (d + 2) mX10_watch P 192 [some (.ref y), some (.int (nI q)), some (.int (nI a)), some (.int (nI p)), none, none, none, none, none, none, some (.int (nI m)), some (.int v11), some (.int (Q a)), none] [] j2 r) :
    Ok G (d + 2) mX10_watch P 92 [some (.ref y), some (.int (nI q)), some (.int (nI a)), some (.int (nI p)), some (.int v4), some (.int v5), some (.int (nI lo)), some (.int (nI ni)), some (.int (nI dg)), some (.int (nI cl)), some (.int (nI m)), some (.int v11), some (.int (Q a)), none] [] j r := by
  have zlo : nI lo = 0 ↔ lo = 0 := nI_eq (b := 0) (by omega) (by decide)
  have zlo2 : nI lo ≤ 0 ↔ lo ≤ 0 := nI_leI (b := 0) (by omega) (by decide)
  have zni : nI ni = 0 ↔ ni = 0 := nI_eq (b := 0) (by omega) (by decide)
  have zni2 : nI ni ≤ 0 ↔ ni ≤ 0 := nI_leI (b := 0) (by omega) (by decide)
  have same : ∀ {K2 : List ob_K}, K2 = K → mk_S j y K2 := fun e => by rw [e]; exact hK
  match last, hl, h with
  | none, hl, h =>
    have hv4 : v4 < 0 := by rw [show v4 = -1 from hl]; decide
    have fin := h j (same (List.append_nil _)) (fun _ _ _ _ => rfl)
    refine sX10_watch_92 y _ _ _ _ _ _ _ _ _ _ _ _ (fun x2 e2 => ⟨fun _ => ?_, fun z => absurd hv4 z⟩)
    refine sX10_watch_132 y _ _ _ _ _ _ _ _ _ _ _ _ ⟨fun _ => ?_, fun z => absurd hv4 z⟩
    exact sX10_watch_157 y _ _ _ _ _ _ _ _ _ _ _ _ ⟨fun _ => fin, fun z => absurd hv4 z⟩
  | some (a0, p0), hl, h =>
    obtain ⟨rfl, rfl, hp0⟩ := hl
    have hv4 : ¬ nI p0 < 0 := nI_pos (by omega)
    have hmin : ∀ x2 : Int32, x2 = (if Q a0 ≤ Q a then Q a0 else Q a) → x2 = wt_min (Q a0) (Q a) := fun x2 e2 => by
      rw [e2]
      unfold wt_min
      by_cases z : Q a < Q a0
      · rw [if_pos z, if_neg (Int32.not_le.mpr z)]
      · rw [if_neg z, if_pos (Int32.not_lt.mp z)]
    have one : ∀ g, wt_lk lo pin = some g → wt_one Q a (some (a0, p0)) lo pin = [(p0, g, wt_min (Q a0) (Q a))] := fun g e => by
      unfold wt_one
      rw [e]
    have non : wt_lk lo pin = none → wt_one Q a (some (a0, p0)) lo pin = [] := fun e => by
      unfold wt_one
      rw [e]
    obtain ⟨hdg, hw⟩ := hw
    refine sX10_watch_92 y _ _ _ _ _ _ _ _ _ _ _ _ (fun x2 e2 => ⟨fun z => absurd z hv4, fun _ => ⟨fun hl0 => ?_, fun hl0 => ⟨fun hn0 => ?_, fun hn0 => ⟨hm.1, ?_⟩⟩⟩⟩)
    · -- positions left out
      have hl1 : 0 < lo := Nat.pos_of_ne_zero (fun z => hl0 (zlo.mpr z))
      refine sX10_watch_132 y _ _ _ _ _ _ _ _ _ _ _ _ ⟨fun z => absurd z hv4, fun _ => ⟨fun z => absurd (zlo2.mp z) (by omega), fun _ => ⟨fun hn0 => ?_, fun hn0 => ⟨hm.1, ?_⟩⟩⟩⟩
      · have hni0 : ¬ ni = 0 := fun z => hn0 (zni.mpr z)
        have hpin : ¬ pin = 1 := by
          have : 4 ^ 1 ≤ 4 ^ ni := Nat.pow_le_pow_right (by decide) (by omega)
          rcases hw with ⟨-, e⟩ | ⟨-, e, -⟩ <;> omega
        have fin := h j (same (by rw [non (by unfold wt_lk; rw [if_neg hpin, if_pos (Or.inl hl1)]), List.append_nil])) (fun _ _ _ _ => rfl)
        exact sX10_watch_157 y _ _ _ _ _ _ _ _ _ _ _ _ ⟨fun z => absurd z hv4, fun _ => ⟨fun _ => fin, fun z => absurd z hl0⟩⟩
      · have hni0 : ni = 0 := zni.mp hn0
        have hpin : pin = 1 := by
          subst hni0
          have hdg : dg < 1 := hdg
          rcases hw with ⟨-, e⟩ | ⟨-, -, e⟩
          · have e : pin = 1 + dg := e
            omega
          · omega
        refine m_link (g := lo) hm hK h127 (by unfold mc; rw [if_pos (by omega)]) (fun j2 b1 b2 => ?_)
        rw [hmin x2 e2] at b1
        have fin := h j2 (by rw [one lo (by unfold wt_lk; rw [if_pos hpin])]; exact b1) b2
        exact sX10_watch_157 y _ _ _ _ _ _ _ _ _ _ _ _ ⟨fun z => absurd z hv4, fun _ => ⟨fun _ => fin, fun z => absurd z hl0⟩⟩
    · -- letters put in
      have hni0 : 0 < ni := Nat.pos_of_ne_zero (fun z => hn0 (zni.mpr z))
      have hlo0 : lo = 0 := zlo.mp hl0
      have hpin : ¬ pin = 1 := by
        have : 4 ^ 1 ≤ 4 ^ ni := Nat.pow_le_pow_right (by decide) (by omega)
        rcases hw with ⟨-, e⟩ | ⟨-, e, -⟩ <;> omega
      refine sX10_watch_132 y _ _ _ _ _ _ _ _ _ _ _ _ ⟨fun z => absurd z hv4, fun _ => ⟨fun _ => ?_, fun z => absurd (zlo2.mpr (by omega)) z⟩⟩
      refine sX10_watch_157 y _ _ _ _ _ _ _ _ _ _ _ _ ⟨fun z => absurd z hv4, fun _ => ⟨fun z => absurd hl0 z, fun _ => ⟨fun z => absurd (zni2.mp z) (by omega), fun _ => ⟨fun hc0 => ?_, fun hc0 => ?_⟩⟩⟩⟩
      · have : cl = 0 := by
          rcases hw with ⟨e, -⟩ | ⟨e, -⟩
          · rw [e] at hc0
            exact absurd hc0 (by decide)
          · exact e
        have hp0' : pin = 0 := by
          rcases hw with ⟨e, -⟩ | ⟨-, e, -⟩
          · omega
          · exact e
        exact h j (same (by rw [non (by unfold wt_lk; rw [if_neg hpin, if_pos (Or.inr hp0')]), List.append_nil])) (fun _ _ _ _ => rfl)
      · have hpe : pin = 4 ^ ni + dg := by
          rcases hw with ⟨-, e⟩ | ⟨e, -⟩
          · exact e
          · rw [e] at hc0
            exact absurd rfl hc0
        refine m_gainOf ⟨hm.1, ?_⟩
        have : 0 < 4 ^ ni := Nat.pow_pos (by decide)
        refine m_link (g := pin) hm hK h127 (mc_gain hni0 hni hdg hpe) (fun j2 b1 b2 => ?_)
        rw [hmin x2 e2] at b1
        exact h j2 (by rw [one pin (by unfold wt_lk; rw [if_neg hpin, if_neg (by omega)])]; exact b1) b2
    · -- plain
      have hni0 : ni = 0 := zni.mp hn0
      have hlo0 : lo = 0 := zlo.mp hl0
      have hpin : pin = 1 := by
        subst hni0
        have hdg : dg < 1 := hdg
        rcases hw with ⟨-, e⟩ | ⟨-, -, e⟩
        · have e : pin = 1 + dg := e
          omega
        · omega
      refine m_link (g := lo) hm hK h127 (by unfold mc; rw [if_pos (by omega), hlo0]; rfl) (fun j2 b1 b2 => ?_)
      rw [hmin x2 e2] at b1
      have fin := h j2 (by rw [one lo (by unfold wt_lk; rw [if_pos hpin])]; exact b1) b2
      refine sX10_watch_132 y _ _ _ _ _ _ _ _ _ _ _ _ ⟨fun z => absurd z hv4, fun _ => ⟨fun _ => ?_, fun z => absurd (zlo2.mpr (by omega)) z⟩⟩
      exact sX10_watch_157 y _ _ _ _ _ _ _ _ _ _ _ _ ⟨fun z => absurd z hv4, fun _ => ⟨fun z => absurd hl0 z, fun _ => ⟨fun _ => fin, fun z => absurd (zni2.mpr (by omega)) z⟩⟩⟩

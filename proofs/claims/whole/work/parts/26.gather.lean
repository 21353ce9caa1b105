/-! Pile.gather, Pile.forget -/
theorem nA_cons (t : Nat) (W : List Nat) : nA (t :: W) = nA W + if t != 2 then 1 else 0 := List.countP_cons
theorem nB_cons (t : Nat) (W : List Nat) : nB (t :: W) = nB W + if t != 3 then 1 else 0 := List.countP_cons
theorem nC_cons (t : Nat) (W : List Nat) : nC (t :: W) = nC W + if t != 1 then 1 else 0 := List.countP_cons
theorem rev_getD {T : List Nat} {k : Nat} (h : k < T.length) : T.reverse.getD k 0 = T.getD (T.length - 1 - k) 0 := by
  rw [List.getD_eq_getElem?_getD, List.getD_eq_getElem?_getD, List.getElem?_reverse h]
theorem wl_bound {pin u v : Nat} (hu : u + 1 ≤ 3) (h : pin < 2 * 4 ^ (3 - (u + 1))) (hv : v ≤ 4) : wt_wl pin (nI v) < 2 * 4 ^ (3 - u) := by
  unfold wt_wl
  split
  · rcases (show u = 0 ∨ u = 1 ∨ u = 2 by omega) with rfl | rfl | rfl <;> decide
  · rename_i hne
    have hv3 : v ≤ 3 := by
      rcases (show v ≤ 3 ∨ v = 4 by omega) with z | z
      · exact z
      · rw [z] at hne
        exact absurd (Or.inr rfl) hne
    rw [nI_clamp (by omega)]
    rcases (show u = 0 ∨ u = 1 ∨ u = 2 by omega) with rfl | rfl | rfl
    · have h : pin < 32 := h
      show pin * 4 + v < 128
      omega
    · have h : pin < 8 := h
      show pin * 4 + v < 32
      omega
    · have h : pin < 2 := h
      show pin * 4 + v < 8
      omega
theorem pin_127 {pin u : Nat} (h : pin < 2 * 4 ^ (3 - u)) : pin ≤ 127 := by
  have : 4 ^ (3 - u) ≤ 4 ^ 3 := Nat.pow_le_pow_right (by decide) (by omega)
  omega
theorem pin_weak {pin u u' : Nat} (h : pin < 2 * 4 ^ (3 - u)) (hu : u' ≤ u) : pin < 2 * 4 ^ (3 - u') := by
  have : 4 ^ (3 - u) ≤ 4 ^ (3 - u') := Nat.pow_le_pow_right (by decide) (by omega)
  omega
/-- the last match as the walk holds it -/
def la_S (v4 v5 : Int32) (p : Nat) : Option (Nat × Nat) → Prop
  | none => v4 = -1 ∧ v5 = -1
  | some (a0, p0) => v4 = nI a0 ∧ v5 = nI p0 ∧ a0 < 16 ∧ p0 < p
theorem c_gather {G : o_G} {d : Nat} {i : o_I} {r : o_R} {post : o_I → Prop} {pi rd s n : Nat} {T : List Nat} {B : List ob_B} {K : List ob_K} (hpi : ly_pi G r pi) (hr : ly_rd G r rd) (hd : pi + 291 ≤ rd) (hst : i rd 4 = nI s) (hsc : sc_S i rd T) (hT19 : T.length ≤ 19) (hlet : ∀ z, z < n → ∃ v : Nat, v ≤ 4 ∧ i (rd + 1) z = nI v) (hnA : nA T = n) (hn16 : n ≤ 16) (hnB : s + nB T ≤ 48) (hnC : nC T ≤ 3) (h123 : ∀ t ∈ T, t = 1 ∨ t = 2 ∨ t = 3) (hS : pi_S i pi B K) (hB7 : ∀ p, p < 48 → (at_B p B).length ≤ 7) (hK7 : ∀ p, p < 48 → (at_K p K).length ≤ 7)
    (h : ∀ j, pi_S j pi (B ++ wtB (i (rd + 1)) (i (rd + 2)) T.reverse 0 s) (K ++ wtK (i (rd + 1)) (i (rd + 2)) T.reverse 0 s none 0 1) → pi_F pi i j → post j) : SpV G (d + 3) mX4_gather [.ref pi, .ref rd] post i r := by
  generalize hL : i (rd + 1) = L at hlet h
  generalize hQ : i (rd + 2) = Q at h
  have r0 := hr.2.1
  have Y0 := hr.2.2.1
  have r1 := hr.2.2.2.1
  have Y1 := hr.2.2.2.2.1
  have loop : ∀ (W' : List Nat) m a p v4 v5 last lo pin dB dK j, T.reverse.drop m = W' → m ≤ T.length → a + nA W' = n → p + nB W' ≤ 48 → lo + nC W' ≤ 3 → pin < 2 * 4 ^ (3 - nC W') → (∀ t ∈ W', t = 1 ∨ t = 2 ∨ t = 3) → la_S v4 v5 p last → pi_S j pi (B ++ dB) (K ++ dK) → (∀ o ∈ dB, o.1 < p) → (last = none → dK = []) → (∀ a0 p0, last = some (a0, p0) → ∀ o ∈ dK, o.1 < p0) → pi_F pi i j → wtB L Q T.reverse 0 s = dB ++ wtB L Q W' a p → wtK L Q T.reverse 0 s none 0 1 = dK ++ wtK L Q W' a p last lo pin →
      Ok G (d + 3) mX4_gather (fun v j q => q = r ∧ v = none ∧ post j) 22 [some (.ref pi), some (.ref rd), some (.int (nI a)), some (.int (nI p)), some (.int v4), some (.int v5), some (.int (nI lo)), some (.int (nI pin)), some (.int (nI m)), none, none] [] j r := by
    intro W'
    induction W' with
    | nil =>
      intro m a p v4 v5 last lo pin dB dK j hdr hm ha hp hlo hpin ht hla hSj hdB hdK0 hdK hF eB eK
      have hml : m = T.length := by
        have := congrArg List.length hdr
        rw [List.length_drop, List.length_reverse] at this
        simp at this
        omega
      refine sX4_gather_22 pi rd _ _ _ _ _ _ _ ⟨hr.1, fun _ => o_rv (h j ?_ hF), fun hn => absurd ?_ hn⟩
      · rw [eB, eK]
        show pi_S j pi (B ++ (dB ++ [])) (K ++ (dK ++ []))
        rw [List.append_nil, List.append_nil]
        exact hSj
      · rw [hF rd 9 (by omega), hsc.1, hml]
        exact nI_le (Nat.le_refl _) (by omega)
    | cons t W' ih =>
      intro m a p v4 v5 last lo pin dB dK j hdr hm ha hp hlo hpin ht hla hSj hdB hdK0 hdK hF eB eK
      obtain ⟨g1, g2, g3⟩ := drop_cons hdr
      rw [List.length_reverse] at g1
      rw [rev_getD g1] at g2
      have jL : j (rd + 1) = L := by rw [← hL]; exact funext (fun z => hF _ z (by omega))
      have jQ : j (rd + 2) = Q := by rw [← hQ]; exact funext (fun z => hF _ z (by omega))
      have scj : sc_S j rd T := ⟨by rw [hF rd 9 (by omega)]; exact hsc.1, fun k hk => by rw [hF (rd + 3) k (by omega)]; exact hsc.2 k hk⟩
      have hp127 := pin_127 hpin
      have t123 := ht t List.mem_cons_self
      rw [nA_cons] at ha
      rw [nB_cons] at hp
      rw [nC_cons] at hlo hpin
      refine sX4_gather_22 pi rd _ _ _ _ _ _ _ ⟨hr.1, fun hle => absurd hle ?_, fun _ => ?_⟩
      · rw [hF rd 9 (by omega), hsc.1]
        exact nI_ge g1 (by omega)
      · refine c_step hr scj hT19 (fun hbad => ?_) (fun k hk ek => ?_)
        · exfalso
          rcases hbad with z | z
          · exact nI_pos (by omega) z
          · exact nI_ge g1 (by omega) z
        · have : m = k := (nI_eq (by omega) (by omega)).mp ek
          subst this
          rw [g2]
          have nxt : ∀ x : Int32, x = nI m + 1 → x = nI (m + 1) := fun x hx => by rw [hx, nI_1]
          rcases t123 with rfl | rfl | rfl
          · -- a match
            simp at ha hp hlo hpin
            refine ⟨fun z => absurd rfl z, fun _ => ⟨hpi.1, ?_⟩⟩
            have hat : at_B p dB = [] := at_B_no (fun o ho => by have := hdB o ho; omega)
            refine c_gatherBase (d := d) hpi hr hd hSj (by omega) (by omega) (by rw [at_B_app, hat, List.append_nil]; exact hB7 p (by omega)) (fun j2 S2 F2 => ?_)
            rw [jL, jQ, List.append_assoc] at S2
            have hF2 : pi_F pi i j2 := fun b k hb => by rw [F2 b k hb]; exact hF b k hb
            have j2Q : j2 (rd + 2) = Q := by rw [← hQ]; exact funext (fun z => hF2 _ z (by omega))
            have eB2 : wtB L Q T.reverse 0 s = (dB ++ wt_b1 L Q a p) ++ wtB L Q W' (a + 1) (p + 1) := by
              rw [eB, List.append_assoc]
              rfl
            have hdB2 : ∀ o ∈ dB ++ wt_b1 L Q a p, o.1 < p + 1 := fun o ho => by
              rcases List.mem_append.mp ho with ho | ho
              · have := hdB o ho
                omega
              · unfold wt_b1 at ho
                split at ho
                · cases ho
                · rw [List.mem_singleton.mp ho]
                  exact Nat.lt_succ_self p
            have cont : ∀ j3 dK3, pi_S j3 pi (B ++ (dB ++ wt_b1 L Q a p)) (K ++ dK3) → pi_F pi i j3 → (∀ o ∈ dK3, o.1 < p) → wtK L Q T.reverse 0 s none 0 1 = dK3 ++ wtK L Q W' (a + 1) (p + 1) (some (a, p)) 0 1 → Ok G (d + 3) mX4_gather (fun v j q => q = r ∧ v = none ∧ post j) 91 [some (.ref pi), some (.ref rd), some (.int (nI a)), some (.int (nI p)), none, none, none, none, some (.int (nI m)), none, none] [] j3 r := by
              intro j3 dK3 S3 F3 h3 e3
              refine sX4_gather_91 pi rd _ _ _ (fun x1 e1 x2 e2 x3 e3' => ?_)
              rw [e1, e2, nxt x3 e3', nI_1, nI_1]
              exact ih (m + 1) (a + 1) (p + 1) _ _ (some (a, p)) 0 1 _ dK3 j3 g3 (by omega) (by omega) (by omega) (by omega) (pin_weak (u := 3) (by decide) (by omega)) (fun t ht' => ht t (List.mem_cons_of_mem _ ht')) ⟨rfl, rfl, by omega, by omega⟩ S3 hdB2 (fun z => by cases z) (fun a0 p0 z o ho => by cases z; exact h3 o ho) F3 eB2 e3
            match last, hla, hdK0, hdK, eK with
            | none, hla, hdK0, hdK, eK =>
              refine ⟨fun _ => cont j2 dK S2 hF2 (fun o ho => by rw [hdK0 rfl] at ho; cases ho) ?_, fun z => absurd hla.2 z⟩
              rw [eK]
              rfl
            | some (a0, p0), hla, hdK0, hdK, eK =>
              obtain ⟨l1, l2, l3, l4⟩ := hla
              have hne : ¬ v5 = -1 := fun z => by
                rw [l2] at z
                exact absurd (z ▸ nI_pos' (n := p0) (by omega)) (by decide)
              refine ⟨fun z => absurd z hne, fun _ => ?_⟩
              rw [r1, Y1.len, l1, nI_clamp (n := a) (by omega), nI_clamp (n := a0) (by omega), j2Q, l2]
              refine ⟨Y1.Y, vp_in_nI (by omega) (by decide), vp_in_nI (by omega) (by decide), fun x20 e20 => c_linkOf (by omega) (by omega) ?_⟩
              have hatK : at_K p0 dK = [] := at_K_no (fun o ho => by have := hdK a0 p0 rfl o ho; omega)
              refine c_gatherLink (d := d) (g := wt_lk lo pin) hpi S2 (by omega) (fun g hg => ?_) (by rw [at_K_app, hatK, List.append_nil]; exact hK7 p0 (by omega)) (fun j4 S4 F4 => ?_)
              · unfold wt_lk at hg
                split at hg
                · cases hg; omega
                · split at hg
                  · cases hg
                  · cases hg; omega
              · rw [List.append_assoc] at S4
                have ek : lk_L p0 x20 (wt_lk lo pin) = wt_one Q a (some (a0, p0)) lo pin := by
                  rw [e20]
                  unfold wt_one
                  cases wt_lk lo pin <;> rfl
                refine cont j4 _ S4 (fun b k hb => by rw [F4 b k hb]; exact hF2 b k hb) (fun o ho => ?_) ?_
                · rcases List.mem_append.mp ho with ho | ho
                  · have := hdK a0 p0 rfl o ho
                    omega
                  · rw [ek] at ho
                    obtain ⟨a1, p1, z1, z2⟩ := wt_one_mem ho
                    cases z1
                    omega
                · rw [ek, eK, List.append_assoc]
                  rfl
          · -- a position left out
            have hpin2 : pin < 2 * 4 ^ (3 - (nC W' + 1)) := hpin
            simp at ha hp hlo
            refine ⟨fun _ => ⟨fun z => absurd rfl z, fun _ x11 e11 x12 e12 x13 e13 => ?_⟩, fun z => absurd z (by decide)⟩
            rw [e11, e12, nxt x13 e13, nI_1, nI_1]
            refine ih (m + 1) a (p + 1) _ _ last (lo + 1) pin dB dK j g3 (by omega) (by omega) (by omega) (by omega) (pin_weak hpin2 (by omega)) (fun t ht' => ht t (List.mem_cons_of_mem _ ht')) ?_ hSj (fun o ho => by have := hdB o ho; omega) hdK0 hdK hF eB eK
            match last, hla with
            | none, hla => exact hla
            | some (a0, p0), hla => exact ⟨hla.1, hla.2.1, hla.2.2.1, by have := hla.2.2.2; omega⟩
          · -- a letter put in
            have hpin2 : pin < 2 * 4 ^ (3 - (nC W' + 1)) := hpin
            simp at ha hp hlo
            obtain ⟨v, hv, ev⟩ := hlet a (by omega)
            rw [r0, Y0.len, nI_clamp (n := a) (by omega), jL, ev]
            refine ⟨fun _ => ⟨fun _ => ⟨Y0.Y, vp_in_nI (by omega) (by decide), c_withLetter (by omega) hv (fun x9 e9 x10 e10 => ?_)⟩, fun z => absurd z (by decide)⟩, fun z => absurd z (by decide)⟩
            rw [e9, nxt x10 e10, nI_1]
            refine ih (m + 1) (a + 1) p _ _ last lo _ dB dK j g3 (by omega) (by omega) (by omega) (by omega) (wl_bound (by omega) hpin2 hv) (fun t ht' => ht t (List.mem_cons_of_mem _ ht')) hla hSj hdB hdK0 hdK hF eB ?_
            rw [← ev]
            exact eK
  refine sp_of 9 (by decide +kernel) (Nat.le_of_ble_eq_true rfl) rfl (sX4_gather_0 pi rd ⟨hr.1, fun x2 e2 => ?_⟩)
  rw [e2, hst]
  refine loop T.reverse 0 0 s _ _ none 0 1 [] [] i rfl (Nat.zero_le _) ?_ ?_ ?_ ?_ (fun t ht => h123 t (List.mem_reverse.mp ht)) ⟨rfl, rfl⟩ ?_ (fun o ho => by cases ho) (fun _ => rfl) (fun a0 p0 z => by cases z) (fun _ _ _ => rfl) rfl rfl
  · rw [nA_rev]
    omega
  · rw [nB_rev]
    exact hnB
  · rw [nC_rev]
    omega
  · rw [nC_rev]
    exact pin_weak (u := 3) (by decide) hnC
  · rw [List.append_nil, List.append_nil]
    exact hS
theorem c_forget {G : o_G} {d : Nat} {i : o_I} {r : o_R} {post : o_I → Prop} {pi : Nat} (hpi : ly_pi G r pi) (h : ∀ j, pi_S j pi [] [] → pi_F pi i j → post j) : SpV G (d + 1) mX4_forget [.ref pi] post i r := by
  obtain ⟨hO, e0, Z0, e1, Z1, hst⟩ := hpi
  have loop : ∀ m p j, p + m = 48 → (∀ q, q < p → st_S j (pi + 3 + 6 * q) [] ∧ st_S j (pi + 6 + 6 * q) []) → pi_F pi i j → Ok G (d + 1) mX4_forget (fun v j q => q = r ∧ v = none ∧ post j) 2 [some (.ref pi), some (.int (nI p))] [] j r := by
    intro m
    induction m with
    | zero =>
      intro p j hp hq hF
      exact sX4_forget_2 pi _ ⟨fun _ => o_rv (h j (fun q hq' => hq q (by omega)) hF), fun hn => absurd (nI_le (a := 48) (b := p) (by omega) (by omega)) hn⟩
    | succ m ih =>
      intro p j hp hq hF
      obtain ⟨s0, s1, t0, t1⟩ := hst p (by omega)
      refine sX4_forget_2 pi _ ⟨fun hle => absurd hle (nI_ge (b := 48) (by omega) (by decide)), fun _ => ?_⟩
      rw [e0, e1, Z0.len, Z1.len, nI_clamp (by omega), s0, s1]
      refine ⟨hO, Z0.Y, vp_in_nI (by omega) (by decide), t0.1, fun i6 e6 => ⟨Z1.Y, vp_in_nI (by omega) (by decide), t1.1, fun i10 e10 x11 e11 => ?_⟩⟩
      rw [e11, nI_1]
      refine ih (p + 1) i10 (by omega) (fun q hq' => ?_) (fun a k ha => by rw [e10, o_up_a (by omega), e6, o_up_a (by omega)]; exact hF a k ha)
      by_cases e : q = p
      · subst e
        refine ⟨⟨by rw [e10, o_up_a (by omega), e6, o_up_s]; rfl, Nat.zero_le _, fun k o hk => by cases hk⟩, ⟨by rw [e10, o_up_s]; rfl, Nat.zero_le _, fun k o hk => by cases hk⟩⟩
      · have := hq q (by omega)
        refine ⟨⟨by rw [e10, o_up_a (by omega), e6, o_up_a (by omega)]; exact this.1.1, Nat.zero_le _, fun k o hk => by cases hk⟩, ⟨by rw [e10, o_up_a (by omega), e6, o_up_a (by omega)]; exact this.2.1, Nat.zero_le _, fun k o hk => by cases hk⟩⟩
  refine sp_of 1 (by decide +kernel) (Nat.le_of_ble_eq_true rfl) rfl (sX4_forget_0 pi ?_)
  exact loop 48 0 i (by omega) (fun q hq => absurd hq (Nat.not_lt_zero q)) (fun _ _ _ => rfl)

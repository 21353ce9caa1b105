/-! Aligner.search: one strand -/
/-- nothing outside the aligner's cells has changed -/
def al_F (al : Nat) (i j : o_I) : Prop := ∀ a n, (a < al ∨ al + 19 ≤ a) → j a n = i a n
theorem al_F.row {al a : Nat} {i j : o_I} (h : al_F al i j) (ha : a < al ∨ al + 19 ≤ a) : j a = i a := funext (fun n => h a n ha)
theorem c_search1 {G : o_G} {d : Nat} {i : o_I} {r : o_R} {P : o_P} {al rd sm k n b len : Nat} (hal : ly_al G r al) (hr : ly_rd G r rd) (hs : ly_sm G r sm) (d1 : al + 19 ≤ sm) (d2 : sm + 4 ≤ rd) (hk : k ≤ 3) (hn : i rd 2 = nI n) (hn4 : 4 ≤ n) (hn16 : n ≤ 16) (hl : i sm 3 = nI len) (hl48 : len ≤ 48) (hb : b ≤ 1) :
    ∀ m s hp q, s + m = len → pq_S hp al k q → al_F al i hp → (∀ hp', pq_S hp' al k (pl_all k b n len (i (rd + 1)) (i (sm + 2)) m s q) → al_F al i hp' → P none hp' r) →
      Ok G (d + 5) mX1_search P 3 [some (.ref al), some (.ref rd), some (.ref sm), some (.int (nI b)), some (.int (nI s)), none, none, none] [] hp r := by
  intro m
  induction m with
  | zero =>
    intro s hp q hm hq hF h
    refine sX1_search_3 al rd sm _ _ ⟨hs.1, fun _ => h hp hq hF, fun hn' => absurd ?_ hn'⟩
    rw [hF sm 3 (by omega), hl]
    exact nI_le (by omega) (by omega)
  | succ m ih =>
    intro s hp q hm hq hF h
    obtain ⟨hK, hK2⟩ := pq_lim hq
    generalize hKe : pl_lim k q = K at hK hK2
    have hlen : hp sm 3 = nI len := by rw [hF sm 3 (by omega)]; exact hl
    have hcnt : hp rd 2 = nI n := by rw [hF rd 2 (by omega)]; exact hn
    have hcc : dp_c (hp (rd + 1)) (hp (sm + 2)) s = dp_c (i (rd + 1)) (i (sm + 2)) s := by rw [hF.row (a := rd + 1) (by omega), hF.row (a := sm + 2) (by omega)]
    generalize hce : dp_c (i (rd + 1)) (i (sm + 2)) s = c at hcc
    have hsteps : ∀ hp2 q2, pq_S hp2 al k q2 → al_F al i hp2 → q2 = pl_row k s b (dp c n) (min (len - s) 19) q → ∀ x : Int32, x = nI s + 1 → Ok G (d + 5) mX1_search P 3 [some (.ref al), some (.ref rd), some (.ref sm), some (.int (nI b)), some (.int x), none, none, none] [] hp2 r := by
      intro hp2 q2 a1 a2 a3 x hx
      rw [hx, nI_1]
      refine ih (s + 1) hp2 q2 (by omega) a1 a2 (fun hp' b1 b2 => h hp' ?_ b2)
      rw [a3] at b1
      show pq_S hp' al k (pl_all k b n len (i (rd + 1)) (i (sm + 2)) m (s + 1) (pl_row k s b (dp (dp_c (i (rd + 1)) (i (sm + 2)) s) n) (min (len - s) 19) q))
      rw [hce]
      exact b1
    refine sX1_search_3 al rd sm _ _ ⟨hs.1, fun hle => absurd hle ?_, fun _ => ⟨hal.1, ?_⟩⟩
    · rw [hlen]
      exact nI_ge (by omega) (by omega)
    · refine c_fill (w := min (len - s) (n + K)) (c := c) hal hr hs d1 d2 hK (by omega) hcnt hn16 hlen hl48 (by omega) rfl hcc.symm (fun j a1 a2 => ?_) (fun j a1 a2 => ?_)
      · have hFj : al_F al i j := fun a n ha => by rw [a1 a n (by omega)]; exact hF a n ha
        have hqj : pq_S j al k q := pq_same hq (fun n _ _ => a1 al n (by omega))
        have hKj : j al 1 = nI K := by rw [a1 al 1 (by omega)]; exact hK
        have hnj : j rd 2 = nI n := by rw [a1 rd 2 (by omega)]; exact hcnt
        have hlj : j sm 3 = nI len := by rw [a1 sm 3 (by omega)]; exact hlen
        refine ⟨fun h0 => absurd h0 (by decide), fun _ => ⟨hr.1, fun x8 e8 x9 e9 => ?_⟩⟩
        have e8 : x8 = nI (n - K) := by
          rw [e8, hnj, hKj, pk_sub (by omega)]
          by_cases h1 : 1 < n - K
          · rw [if_pos (show (1 : Int32) < nI (n - K) from nI_lt (a := 1) (b := n - K) h1 (by omega))]
          · rw [if_neg (show ¬ (1 : Int32) < nI (n - K) from nI_nlt (a := 1) (b := n - K) (by omega) (by decide)), show n - K = 1 by omega]
            rfl
        have e9 : x9 = nI (min (len - s) (n + K)) := by rw [e9, hnj, hKj, hlj, nI_add, pk_sub (by omega), nI_min (by omega) (by omega)]
        rw [e8, e9]
        have hrow := a2 n (Nat.le_refl n)
        obtain ⟨rn, Zn⟩ := hal.2.2.2 n (by omega)
        -- the ends
        have inner : ∀ m2 jx hp2 q2, min (len - s) (n + K) + 1 ≤ jx + m2 → n - K ≤ jx → (jx ≤ min (len - s) (n + K) + 1 ∨ jx = n - K) → pq_S hp2 al k q2 → al_F al i hp2 → hp2 (al + 2 + n) = j (al + 2 + n) → pl_lim k q2 ≤ K → (jx ≤ min (len - s) (n + K) + 1 → q2 = pl_row k s b (dp c n) (jx - 1) q) → (jx = n - K → q2 = q) →
            Ok G (d + 5) mX1_search P 63 [some (.ref al), some (.ref rd), some (.ref sm), some (.int (nI b)), some (.int (nI s)), none, some (.int (nI (min (len - s) (n + K)))), some (.int (nI jx))] [] hp2 r := by
          intro m2
          induction m2 with
          | zero =>
            intro jx hp2 q2 g1 g2 g3 g4 g5 g6 g7 g8 g9
            refine sX1_search_63 al rd sm _ _ _ _ ⟨fun _ => hsteps hp2 q2 g4 g5 ?_, fun hn' => absurd (nI_lt (by omega) (by omega)) hn'⟩
            by_cases e : jx ≤ min (len - s) (n + K) + 1
            · rw [g8 e]
              refine (pl_row_skip (K := K) (by omega) (m := jx - 1) (min (len - s) 19) (by omega) (fun j' j1 j2 => ?_)).symm
              have := (dp_lo c n j').2
              omega
            · rw [g9 (by omega)]
              refine (pl_row_skip (K := K) (by omega) (m := 0) (min (len - s) 19) (by omega) (fun j' j1 j2 => ?_)).symm
              have := (dp_lo c n j').1
              omega
          | succ m2 ih2 =>
            intro jx hp2 q2 g1 g2 g3 g4 g5 g6 g7 g8 g9
            by_cases hjl : min (len - s) (n + K) < jx
            · exact ih2 jx hp2 q2 (by omega) g2 g3 g4 g5 g6 g7 g8 g9
            · refine sX1_search_63 al rd sm _ _ _ _ ⟨fun hlt => absurd hlt (nI_nlt (by omega) (by omega)), fun _ => ?_⟩
              obtain ⟨x, x1, x2, x3⟩ := hrow jx (by omega) (by omega) (by omega)
              rw [g5 rd 2 (by omega), hn, hal.2.1, hal.2.2.1.len, nI_clamp (n := n) (by omega), nI_clamp (n := jx) (by omega), rn, Zn.len, g6, x2, nI_add]
              refine ⟨hal.1, hr.1, hal.2.2.1.Y, vp_in_nI (by omega) (by decide), Zn.Y, vp_in_nI (by omega) (by decide), c_consider hal.1 g4 hk (by omega) (by omega) (by omega) hb (fun j2 b1 b2 b3 => ?_)⟩
              intro x10 e10
              rw [e10, nI_1]
              refine ih2 (jx + 1) j2 _ (by omega) (by omega) (Or.inl (by omega)) b1 (fun a n ha => by rw [b2 a n (by omega)]; exact g5 a n ha) (by rw [← g6]; exact funext (fun n => b2 _ n (by omega))) (Nat.le_trans pl_step_lim g7) (fun _ => ?_) (fun e => by omega)
              rw [pl_step_eq x3 g7, g8 (by omega)]
              have : jx = (jx - 1) + 1 := by omega
              rw [show jx + 1 - 1 = (jx - 1) + 1 by omega]
              show _ = pl_step k s (s + ((jx - 1) + 1)) b (dp c n ((jx - 1) + 1)) _
              rw [← this]
        refine inner (min (len - s) (n + K) + 1) (n - K) j q (by omega) (Nat.le_refl _) (Or.inr rfl) hqj hFj rfl (by omega) (fun e => ?_) (fun _ => rfl)
        refine (pl_row_skip (K := K) (by omega) (m := 0) (n - K - 1) (by omega) (fun j' j1 j2 => ?_)).symm
        have := (dp_lo c n j').1
        omega
      · have hFj : al_F al i j := fun a n ha => by rw [a1 a n (by omega)]; exact hF a n ha
        have hqj : pq_S j al k q := pq_same hq (fun n _ _ => a1 al n (by omega))
        refine ⟨fun _ => hsteps j q hqj hFj ?_, fun h0 => absurd rfl h0⟩
        refine (pl_row_skip (K := K) (by omega) (m := 0) (min (len - s) 19) (by omega) (fun j' j1 j2 => ?_)).symm
        by_cases e : j' ≤ min (len - s) (n + K)
        · exact a2 j' e
        · have := (dp_lo c n j').2
          omega
theorem c_search {G : o_G} {d : Nat} {i : o_I} {r : o_R} {post : o_I → Prop} {al rd sm k n b len : Nat} {q : pl_Q} (hal : ly_al G r al) (hr : ly_rd G r rd) (hs : ly_sm G r sm) (d1 : al + 19 ≤ sm) (d2 : sm + 4 ≤ rd) (hk : k ≤ 3) (hn : i rd 2 = nI n) (hn4 : 4 ≤ n) (hn16 : n ≤ 16) (hl : i sm 3 = nI len) (hl48 : len ≤ 48) (hb : b ≤ 1) (hq : pq_S i al k q)
    (h : ∀ j, pq_S j al k (pl_all k b n len (i (rd + 1)) (i (sm + 2)) len 0 q) → al_F al i j → post j) : SpV G (d + 5) mX1_search [.ref al, .ref rd, .ref sm, .int (nI b)] post i r := by
  refine sp_of 4 (by decide +kernel) (Nat.le_of_ble_eq_true rfl) rfl (sX1_search_0 al rd sm _ ?_)
  exact c_search1 hal hr hs d1 d2 hk hn hn4 hn16 hl hl48 hb len 0 i q (by omega) hq (fun _ _ _ => rfl) (fun hp' a1 a2 => o_rv (h hp' a1 a2))

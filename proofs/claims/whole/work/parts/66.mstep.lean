/-! THE REFERENCE: step -/
theorem m_stepN {G : o_G} {d : Nat} {i : o_I} {r : o_R} {post : Int32 → o_I → Prop} {y R : Nat} {TT : Nat → List Nat} {v1 v2 : Int32} (hm : ly_m G r y) (h6 : i y 6 = nI R) (hR : R ≤ 8) (hT : ∀ q, q < R → ms_T i y q (TT q) ∧ (TT q).length ≤ 19) (h : post (st_f R TT v1 v2) i) : SpI G (d + 2) mX10_step [.ref y, .int v1, .int v2] post i r := by
  obtain ⟨e13, Z13⟩ := hm.2 15 13 1 8 rfl (by decide)
  obtain ⟨e14, Z14⟩ := hm.2 16 14 1 320 rfl (by decide)
  have key : ∀ n k : Nat, n ≤ 20 → k < 2 ^ 31 → (nI k ≤ nI n - 1 ↔ k < n) := fun n k hn hk => by
    rw [Int32.le_iff_toInt_le, show nI n - 1 = nI n - nI 1 from rfl, pk_sub_toInt (by omega) (by decide), nI_toInt hk]
    omega
  unfold st_f at h
  refine sp_of 0 (by decide +kernel) (Nat.le_of_ble_eq_true rfl) rfl (sX10_step_0 y v1 v2 ⟨hm.1, ?_⟩)
  rw [h6]
  refine m_outside (fun hb => ⟨fun _ => ?_, fun u => absurd u (by decide)⟩) (fun u1 u2 => ⟨fun u => absurd rfl u, fun _ => ?_⟩)
  · by_cases n1 : v1 < 0
    · rw [if_pos n1] at h
      exact o_ri h
    · obtain ⟨q, hq, rfl⟩ := nI_of n1
      have : ¬ q < R := fun z => by
        rcases hb with hb | hb
        · exact n1 hb
        · exact hb ((key R q (by omega) hq).mpr z)
      rw [if_neg n1, nI_clamp hq, if_neg this] at h
      exact o_ri h
  · obtain ⟨q, hq, rfl⟩ := nI_of u1
    have hqR := (key R q (by omega) hq).mp u2
    obtain ⟨⟨t1, t2⟩, t3⟩ := hT q hqR
    rw [if_neg u1, nI_clamp hq, if_pos hqR] at h
    rw [e13, Z13.len, e14, Z14.len, nI_clamp hq, t1]
    refine ⟨Z13.Y, vp_in_nI (by omega) (by decide), m_outside (fun hb => ⟨⟨fun u => absurd u (by decide), fun _ => trivial⟩, fun x10 e10 => ?_⟩) (fun w1 w2 => ?_)⟩
    · rw [if_neg (by decide)] at e10
      rw [e10]
      by_cases n2 : v2 < 0
      · rw [if_pos n2] at h
        exact o_ri h
      · obtain ⟨k, hk, rfl⟩ := nI_of n2
        have : ¬ k < (TT q).length := fun z => by
          rcases hb with hb | hb
          · exact n2 hb
          · exact hb ((key _ k (by omega) hk).mpr z)
        rw [if_neg n2, nI_clamp hk, if_neg this] at h
        exact o_ri h
    · obtain ⟨k, hk, rfl⟩ := nI_of w1
      have hkl := (key _ k (by omega) hk).mp w2
      rw [if_neg w1, nI_clamp hk, if_pos hkl] at h
      rw [show (40 : Int32) * nI q + nI k = nI (40 * q + k) by rw [show (40 : Int32) * nI q = nI (40 * q) from pk_mul 40 q, nI_add], nI_clamp (n := 40 * q + k) (by omega), t2 k hkl]
      refine ⟨⟨fun _ => ⟨Z14.Y, vp_in_nI (by omega) (by decide), trivial⟩, fun u => absurd rfl u⟩, fun x10 e10 => ?_⟩
      rw [if_pos rfl] at e10
      rw [e10]
      exact o_ri h

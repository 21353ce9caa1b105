/-! reads, step of the class -/
theorem c_reads {G : o_G} {d : Nat} {i : o_I} {r : o_R} {post : Int32 → o_I → Prop} {x pi jd tb sm R : Nat} (hx : ly_x G r x pi jd tb sm) (h5 : i sm 5 = nI R) (h : post (nI R) i) : SpI G (d + 1) mX0_reads [.ref x] post i r := by
  obtain ⟨hO, -, -, -, -, -, -, e8, hsm, -⟩ := hx
  refine sp_of 0 (by decide +kernel) (Nat.le_of_ble_eq_true rfl) rfl (sX0_reads_0 x ?_)
  rw [e8, h5]
  exact ⟨hO, hsm.1, o_ri h⟩
theorem m_readsN {G : o_G} {d : Nat} {i : o_I} {r : o_R} {post : Int32 → o_I → Prop} {y R : Nat} (hm : ly_m G r y) (h6 : i y 6 = nI R) (h : post (nI R) i) : SpI G (d + 1) mX10_reads [.ref y] post i r := by
  refine sp_of 0 (by decide +kernel) (Nat.le_of_ble_eq_true rfl) rfl (sX10_reads_0 y ?_)
  rw [h6]
  exact ⟨hm.1, o_ri h⟩
/-- a step of a script, 0 where there is none -/
def st_f (R : Nat) (TT : Nat → List Nat) (v1 v2 : Int32) : Int32 := if v1 < 0 then 0 else if v1.toNatClampNeg < R then (if v2 < 0 then 0 else if v2.toNatClampNeg < (TT v1.toNatClampNeg).length then nI ((TT v1.toNatClampNeg).getD ((TT v1.toNatClampNeg).length - 1 - v2.toNatClampNeg) 0) else 0) else 0
theorem c_stepX {G : o_G} {d : Nat} {i : o_I} {r : o_R} {post : Int32 → o_I → Prop} {x pi jd tb sm R : Nat} {TT : Nat → List Nat} {v1 v2 : Int32} (hx : ly_x G r x pi jd tb sm) (h5 : i sm 5 = nI R) (hR : R ≤ 8) (hT : ∀ q, q < R → sc_S i (sm + 4 + 4 * q) (TT q) ∧ (TT q).length ≤ 19) (h : post (st_f R TT v1 v2) i) : SpI G (d + 2) mX0_step [.ref x, .int v1, .int v2] post i r := by
  obtain ⟨hO, -, -, -, -, -, -, e8, hsm, -⟩ := hx
  have e4 := hsm.2.2.2.2.2.1
  have Z4 := hsm.2.2.2.2.2.2.1
  have hrd := hsm.2.2.2.2.2.2.2
  unfold st_f at h
  refine sp_of 0 (by decide +kernel) (Nat.le_of_ble_eq_true rfl) rfl (sX0_step_0 x v1 v2 ?_)
  rw [e8, h5, e4, Z4.len]
  refine ⟨fun u => ?_, fun u => ⟨hO, hsm.1, fun w => ?_, fun w => ?_⟩⟩
  · rw [if_pos u] at h
    exact o_ri h
  · obtain ⟨q, hq, rfl⟩ := nI_of u
    have hqR : q < R := (nI_ltI hq (by omega)).mp w
    rw [if_neg u, nI_clamp hq, if_pos hqR] at h
    obtain ⟨s1, s2⟩ := hT q hqR
    rw [nI_clamp hq, (hrd q (by omega)).1]
    refine ⟨Z4.Y, vp_in_nI (by omega) (by decide), (hrd q (by omega)).2.1, c_step (hrd q (by omega)).2 s1 s2 (fun hb => ?_) (fun k hk ek => ?_)⟩
    · by_cases n2 : v2 < 0
      · rw [if_pos n2] at h
        exact o_ri h
      · obtain ⟨k, hk, rfl⟩ := nI_of n2
        rw [if_neg n2, nI_clamp hk] at h
        have : (TT q).length ≤ k := by
          rcases hb with hb | hb
          · exact absurd hb n2
          · exact (nI_leI (by omega) hk).mp hb
        rw [if_neg (by omega)] at h
        exact o_ri h
    · subst ek
      rw [if_neg (nI_pos (by omega)), nI_clamp (n := k) (by omega), if_pos hk] at h
      exact o_ri h
  · obtain ⟨q, hq, rfl⟩ := nI_of u
    have hqR : ¬ q < R := fun z => w (nI_lt z (by omega))
    rw [if_neg u, nI_clamp hq, if_neg hqR] at h
    exact o_ri h

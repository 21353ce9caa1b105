/-! place of both sides -/
theorem dX5_placement_0 : decode cX5_placement 0 = .ok (.iload_n 1, 1) := by decide +kernel
theorem dX5_placement_1 : decode cX5_placement 1 = .ok (.tableswitch 59 1 4 #[31, 36, 41, 46], 31) := by decide +kernel
theorem dX5_placement_32 : decode cX5_placement 32 = .ok (.aload_n 0, 1) := by decide +kernel
theorem dX5_placement_33 : decode cX5_placement 33 = .ok (.getfield 25, 3) := by decide +kernel
theorem dX5_placement_36 : decode cX5_placement 36 = .ok (.ireturn, 1) := by decide +kernel
theorem dX5_placement_37 : decode cX5_placement 37 = .ok (.aload_n 0, 1) := by decide +kernel
theorem dX5_placement_38 : decode cX5_placement 38 = .ok (.getfield 28, 3) := by decide +kernel
theorem dX5_placement_41 : decode cX5_placement 41 = .ok (.ireturn, 1) := by decide +kernel
theorem dX5_placement_42 : decode cX5_placement 42 = .ok (.aload_n 0, 1) := by decide +kernel
theorem dX5_placement_43 : decode cX5_placement 43 = .ok (.getfield 31, 3) := by decide +kernel
theorem dX5_placement_46 : decode cX5_placement 46 = .ok (.ireturn, 1) := by decide +kernel
theorem dX5_placement_47 : decode cX5_placement 47 = .ok (.aload_n 0, 1) := by decide +kernel
theorem dX5_placement_48 : decode cX5_placement 48 = .ok (.getfield 34, 3) := by decide +kernel
theorem dX5_placement_51 : decode cX5_placement 51 = .ok (.ifCond .eq 7, 3) := by decide +kernel
theorem dX5_placement_54 : decode cX5_placement 54 = .ok (.iconst 1, 1) := by decide +kernel
theorem dX5_placement_55 : decode cX5_placement 55 = .ok (.goto 4, 3) := by decide +kernel
theorem dX5_placement_58 : decode cX5_placement 58 = .ok (.iconst 0, 1) := by decide +kernel
theorem dX5_placement_59 : decode cX5_placement 59 = .ok (.ireturn, 1) := by decide +kernel
theorem dX5_placement_60 : decode cX5_placement 60 = .ok (.iconst (-1), 1) := by decide +kernel
theorem dX5_placement_61 : decode cX5_placement 61 = .ok (.ireturn, 1) := by decide +kernel
theorem c_placement {G : o_G} {d : Nat} {i : o_I} {r : o_R} {post : Int32 → o_I → Prop} {rd : Nat} {v : Int32} (hO : o_O G rd 5) (h1 : v = 1 → post (i rd 4) i) (h2 : v = 2 → post (i rd 5) i) (h3 : v = 3 → post (i rd 6) i) (h4 : v = 4 → post (if i rd 7 = 0 then 0 else 1) i) (h0 : ¬ v = 1 → ¬ v = 2 → ¬ v = 3 → ¬ v = 4 → post (-1) i) : SpI G (d + 1) mX5_placement [.ref rd, .int v] post i r := by
  refine sp_of 0 (by decide +kernel) (Nat.le_of_ble_eq_true rfl) rfl ?_
  show Ok G (d + 1) mX5_placement _ 0 [some (.ref rd), some (.int v)] [] i r
  refine ok_iload_n 1 dX5_placement_0 rfl rfl ?_
  by_cases e1 : v = 1
  · refine ok_tsIn (off := 31) 32 dX5_placement_1 (by rw [e1]; decide) (by rw [e1]; decide) (by rw [e1]; rfl) (by decide) ?_
    refine ok_aload_n 0 dX5_placement_32 rfl rfl ?_
    refine ok_geti 5 4 dX5_placement_33 f5_25 rfl hO ?_
    exact ok_iret .int dX5_placement_36 rfl rfl (o_ri (h1 e1))
  by_cases e2 : v = 2
  · refine ok_tsIn (off := 36) 37 dX5_placement_1 (by rw [e2]; decide) (by rw [e2]; decide) (by rw [e2]; rfl) (by decide) ?_
    refine ok_aload_n 0 dX5_placement_37 rfl rfl ?_
    refine ok_geti 5 5 dX5_placement_38 f5_28 rfl hO ?_
    exact ok_iret .int dX5_placement_41 rfl rfl (o_ri (h2 e2))
  by_cases e3 : v = 3
  · refine ok_tsIn (off := 41) 42 dX5_placement_1 (by rw [e3]; decide) (by rw [e3]; decide) (by rw [e3]; rfl) (by decide) ?_
    refine ok_aload_n 0 dX5_placement_42 rfl rfl ?_
    refine ok_geti 5 6 dX5_placement_43 f5_31 rfl hO ?_
    exact ok_iret .int dX5_placement_46 rfl rfl (o_ri (h3 e3))
  by_cases e4 : v = 4
  · refine ok_tsIn (off := 46) 47 dX5_placement_1 (by rw [e4]; decide) (by rw [e4]; decide) (by rw [e4]; rfl) (by decide) ?_
    refine ok_aload_n 0 dX5_placement_47 rfl rfl ?_
    refine ok_geti 5 7 dX5_placement_48 f5_34 rfl hO ?_
    replace h4 := h4 e4
    refine ok_if_eq 58 dX5_placement_51 (by decide) (fun z => ?_) (fun z => ?_)
    · rw [if_pos z] at h4
      refine ok_iconst 0 dX5_placement_58 (by decide) ?_
      exact ok_iret .int dX5_placement_59 rfl rfl (o_ri h4)
    · rw [if_neg z] at h4
      refine ok_iconst 1 dX5_placement_54 (by decide) ?_
      refine ok_goto 59 dX5_placement_55 (by decide) ?_
      exact ok_iret .int dX5_placement_59 rfl rfl (o_ri h4)
  · have n1 : v.toInt ≠ 1 := fun e => e1 (Int32.toInt_inj.mp (by rw [e]; rfl))
    have n2 : v.toInt ≠ 2 := fun e => e2 (Int32.toInt_inj.mp (by rw [e]; rfl))
    have n3 : v.toInt ≠ 3 := fun e => e3 (Int32.toInt_inj.mp (by rw [e]; rfl))
    have n4 : v.toInt ≠ 4 := fun e => e4 (Int32.toInt_inj.mp (by rw [e]; rfl))
    refine ok_tsOut 60 dX5_placement_1 (by omega) (by decide) ?_
    refine ok_iconst (-1) dX5_placement_60 (by decide) ?_
    exact ok_iret .int dX5_placement_61 rfl rfl (o_ri (h0 e1 e2 e3 e4))
/-- what place says of a read: by its placement -/
def pc_w : pl_Q → Int32 → Int32
  | none, _ => -1
  | some (l, s, e, b, _, _), v => if v = 1 then nI s else if v = 2 then nI e else if v = 3 then nI l else if v = 4 then nI b else -1
def pc_f (R : Nat) (PP : Nat → pl_Q) (v1 v2 : Int32) : Int32 := if v1 < 0 then -1 else if v1.toNatClampNeg < R then (if v2 = 0 then nI (pl_st (PP v1.toNatClampNeg)) else if pl_st (PP v1.toNatClampNeg) = 0 then pc_w (PP v1.toNatClampNeg) v2 else -1) else -1
def pc_C (i : o_I) (rd : Nat) (Q : pl_Q) : Prop := i rd 3 = nI (pl_st Q) ∧ ∀ l s e b fe ls, Q = some (l, s, e, b, fe, ls) → ls < fe → i rd 4 = nI s ∧ i rd 5 = nI e ∧ i rd 6 = nI l ∧ i rd 7 = nI b ∧ b ≤ 1
def pc_M (i : o_I) (y q : Nat) (Q : pl_Q) : Prop := i (y + 8) q = nI (pl_st Q) ∧ ∀ l s e b fe ls, Q = some (l, s, e, b, fe, ls) → i (y + 9) q = nI s ∧ i (y + 10) q = nI e ∧ i (y + 11) q = nI l ∧ i (y + 12) q = nI b
theorem pc_w_s {l s e b fe ls : Nat} {v : Int32} : pc_w (some (l, s, e, b, fe, ls)) v = if v = 1 then nI s else if v = 2 then nI e else if v = 3 then nI l else if v = 4 then nI b else -1 := rfl
theorem pl_st_s {l s e b fe ls : Nat} : pl_st (some (l, s, e, b, fe, ls)) = if ls < fe then 0 else 2 := rfl
theorem pl_st_0 {Q : pl_Q} (h : pl_st Q = 0) : ∃ l s e b fe ls, Q = some (l, s, e, b, fe, ls) ∧ ls < fe := by
  match Q, h with
  | none, h => cases h
  | some (l, s, e, b, fe, ls), h =>
    refine ⟨l, s, e, b, fe, ls, rfl, Classical.byContradiction (fun hn => ?_)⟩
    rw [pl_st_s, if_neg hn] at h
    cases h
theorem pl_st_2 (Q : pl_Q) : pl_st Q ≤ 2 := by
  match Q with
  | none => exact (by decide : 1 ≤ 2)
  | some (l, s, e, b, fe, ls) =>
    rw [pl_st_s]
    split <;> omega
theorem c_place {G : o_G} {d : Nat} {i : o_I} {r : o_R} {post : Int32 → o_I → Prop} {x pi jd tb sm R : Nat} {PP : Nat → pl_Q} {v1 v2 : Int32} (hx : ly_x G r x pi jd tb sm) (h5 : i sm 5 = nI R) (hR : R ≤ 8) (hP : ∀ q, q < R → pc_C i (sm + 4 + 4 * q) (PP q)) (h : post (pc_f R PP v1 v2) i) : SpI G (d + 2) mX0_place [.ref x, .int v1, .int v2] post i r := by
  obtain ⟨hO, -, -, -, -, -, -, e8, hsm, -⟩ := hx
  have e4 := hsm.2.2.2.2.2.1
  have Z4 := hsm.2.2.2.2.2.2.1
  have hrd := hsm.2.2.2.2.2.2.2
  unfold pc_f at h
  refine sp_of 1 (by decide +kernel) (Nat.le_of_ble_eq_true rfl) rfl (sX0_place_0 x v1 v2 ?_)
  rw [e8, h5, e4, Z4.len]
  refine ⟨fun u => ?_, fun u => ⟨hO, hsm.1, fun w => ?_, fun w => ?_⟩⟩
  · rw [if_pos u] at h
    exact o_ri h
  · obtain ⟨q, hq, rfl⟩ := nI_of u
    have hqR : q < R := (nI_ltI hq (by omega)).mp w
    rw [if_neg u, nI_clamp hq, if_pos hqR] at h
    obtain ⟨s1, s2⟩ := hP q hqR
    have p2 := pl_st_2 (PP q)
    have zst : nI (pl_st (PP q)) = 0 ↔ pl_st (PP q) = 0 := nI_eq (b := 0) (by omega) (by decide)
    rw [nI_clamp hq, (hrd q (by omega)).1, s1]
    refine ⟨Z4.Y, vp_in_nI (by omega) (by decide), fun z => ⟨(hrd q (by omega)).2.1, fun z2 => ?_, fun z2 => ?_⟩, fun z => ⟨(hrd q (by omega)).2.1, ?_⟩⟩
    · rw [if_neg z, if_neg (fun e => z2 (zst.mpr e))] at h
      exact o_ri h
    · have z3 := zst.mp z2
      rw [if_neg z, if_pos z3] at h
      obtain ⟨l, s, e, b, fe, ls, eQ, hlt⟩ := pl_st_0 z3
      obtain ⟨t4, t5, t6, t7, tb1⟩ := s2 l s e b fe ls eQ hlt
      rw [eQ, pc_w_s] at h
      refine c_placement (hrd q (by omega)).2.1 (fun w => ?_) (fun w => ?_) (fun w => ?_) (fun w => ?_) (fun w1 w2 w3 w4 => ?_)
      · rw [t4]
        rw [if_pos w] at h
        exact o_ri h
      · rw [t5]
        rw [w, if_neg (by decide), if_pos rfl] at h
        exact o_ri h
      · rw [t6]
        rw [w, if_neg (by decide), if_neg (by decide), if_pos rfl] at h
        exact o_ri h
      · rw [t7]
        rw [w, if_neg (by decide), if_neg (by decide), if_neg (by decide), if_pos rfl] at h
        have : (if nI b = 0 then (0 : Int32) else 1) = nI b := by
          rcases (show b = 0 ∨ b = 1 by omega) with rfl | rfl <;> rfl
        rw [this]
        exact o_ri h
      · rw [if_neg w1, if_neg w2, if_neg w3, if_neg w4] at h
        exact o_ri h
    · rw [if_pos z] at h
      exact o_ri h
  · obtain ⟨q, hq, rfl⟩ := nI_of u
    have hqR : ¬ q < R := fun z => w (nI_lt z (by omega))
    rw [if_neg u, nI_clamp hq, if_neg hqR] at h
    exact o_ri h
theorem m_placeN {G : o_G} {d : Nat} {i : o_I} {r : o_R} {post : Int32 → o_I → Prop} {y R : Nat} {PP : Nat → pl_Q} {v1 v2 : Int32} (hm : ly_m G r y) (h6 : i y 6 = nI R) (hR : R ≤ 8) (hP : ∀ q, q < R → pc_M i y q (PP q)) (h : post (pc_f R PP v1 v2) i) : SpI G (d + 2) mX10_place [.ref y, .int v1, .int v2] post i r := by
  obtain ⟨e8, Z8⟩ := hm.2 10 8 1 8 rfl (by decide)
  obtain ⟨e9, Z9⟩ := hm.2 11 9 1 8 rfl (by decide)
  obtain ⟨e10, Z10⟩ := hm.2 12 10 1 8 rfl (by decide)
  obtain ⟨e11, Z11⟩ := hm.2 13 11 1 8 rfl (by decide)
  obtain ⟨e12, Z12⟩ := hm.2 14 12 1 8 rfl (by decide)
  have key : ∀ n k : Nat, n ≤ 20 → k < 2 ^ 31 → (nI k ≤ nI n - 1 ↔ k < n) := fun n k hn hk => by
    rw [Int32.le_iff_toInt_le, show nI n - 1 = nI n - nI 1 from rfl, pk_sub_toInt (by omega) (by decide), nI_toInt hk]
    omega
  unfold pc_f at h
  refine sp_of 0 (by decide +kernel) (Nat.le_of_ble_eq_true rfl) rfl (sX10_place_0 y v1 v2 ⟨hm.1, ?_⟩)
  rw [h6]
  refine m_outside (fun hb => ⟨fun _ => ?_, fun u => absurd u (by decide)⟩) (fun u1 u2 => ⟨fun u => absurd rfl u, fun _ => ?_⟩)
  · by_cases n1 : v1 < 0
    · rw [if_pos n1] at h
      exact o_ri h
    · obtain ⟨q, hq, rfl⟩ := nI_of n1
      have : ¬ q < R := fun z => by
        rcases hb with hb | hb
        · exact n1 hb
        · exact hb ((key R q (by omega) hq).mpr z)
      rw [if_neg n1, nI_clamp hq, if_neg this] at h
      exact o_ri h
  · obtain ⟨q, hq, rfl⟩ := nI_of u1
    have hqR := (key R q (by omega) hq).mp u2
    obtain ⟨s1, s2⟩ := hP q hqR
    have p2 := pl_st_2 (PP q)
    have zst : nI (pl_st (PP q)) = 0 ↔ pl_st (PP q) = 0 := nI_eq (b := 0) (by omega) (by decide)
    rw [if_neg u1, nI_clamp hq, if_pos hqR] at h
    have inq : vp_in (nI q) 8 := vp_in_nI (by omega) (by decide)
    have walk : (v2 = 0 ∨ pl_st (PP q) = 0) → 0 ≤ v2 → v2 ≤ 4 → Ok G (d + 2) mX10_place (fun v j q => q = r ∧ ∃ x, v = some (.int x) ∧ post x j) 38 [some (.ref y), some (.int (nI q)), some (.int v2)] [] i r := fun hz h0 h4 => by
      refine sX10_place_38 y (nI q) v2 ?_
      rw [e8, e9, e10, e11, e12, Z8.len, Z9.len, Z10.len, Z11.len, Z12.len, nI_clamp hq]
      refine ⟨⟨fun _ => ⟨fun _ => ⟨fun _ => ⟨fun _ => ⟨hm.1, Z12.Y, inq, trivial⟩, fun _ => ⟨hm.1, Z11.Y, inq, trivial⟩⟩, fun _ => ⟨hm.1, Z10.Y, inq, trivial⟩⟩, fun _ => ⟨hm.1, Z9.Y, inq, trivial⟩⟩, fun _ => ⟨hm.1, Z8.Y, inq, trivial⟩⟩, fun x20 e20 => ?_⟩
      by_cases z : v2 = 0
      · rw [if_pos z] at h e20
        rw [e20, s1]
        exact o_ri h
      · have z3 := hz.resolve_left z
        rw [if_neg z, if_pos z3] at h
        rw [if_neg z] at e20
        obtain ⟨l, s, e, b, fe, ls, eQ, hlt⟩ := pl_st_0 z3
        obtain ⟨t4, t5, t6, t7⟩ := s2 l s e b fe ls eQ
        rw [eQ, pc_w_s] at h
        rw [t4, t5, t6, t7] at e20
        rw [e20]
        have c4 : v2.toInt = 1 ∨ v2.toInt = 2 ∨ v2.toInt = 3 ∨ v2.toInt = 4 := by
          have a0 := Int32.le_iff_toInt_le.mp h0
          have a4 := Int32.le_iff_toInt_le.mp h4
          have b0 : (0 : Int32).toInt = 0 := rfl
          have b4 : (4 : Int32).toInt = 4 := rfl
          have nz : v2.toInt ≠ 0 := fun e => z (Int32.toInt_inj.mp (by rw [e]; rfl))
          omega
        rcases c4 with c | c | c | c
        · have : v2 = 1 := Int32.toInt_inj.mp (by rw [c]; rfl)
          rw [this] at h ⊢
          exact o_ri h
        · have : v2 = 2 := Int32.toInt_inj.mp (by rw [c]; rfl)
          rw [this] at h ⊢
          exact o_ri h
        · have : v2 = 3 := Int32.toInt_inj.mp (by rw [c]; rfl)
          rw [this] at h ⊢
          exact o_ri h
        · have : v2 = 4 := Int32.toInt_inj.mp (by rw [c]; rfl)
          rw [this] at h ⊢
          exact o_ri h
    refine m_outside (fun hb => ⟨fun _ => ?_, fun u => absurd u (by decide)⟩) (fun w1 w2 => ⟨fun u => absurd rfl u, fun _ => ⟨fun hle => ?_, fun hle => ?_⟩⟩)
    · have nz : ¬ v2 = 0 := fun e => by
        rw [e] at hb
        exact absurd hb (by decide)
      rw [if_neg nz] at h
      by_cases z3 : pl_st (PP q) = 0
      · rw [if_pos z3] at h
        obtain ⟨l, s, e, b, fe, ls, eQ, hlt⟩ := pl_st_0 z3
        rw [eQ, pc_w_s] at h
        rw [if_neg (fun e => by rw [e] at hb; exact absurd hb (by decide)), if_neg (fun e => by rw [e] at hb; exact absurd hb (by decide)), if_neg (fun e => by rw [e] at hb; exact absurd hb (by decide)), if_neg (fun e => by rw [e] at hb; exact absurd hb (by decide))] at h
        exact o_ri h
      · rw [if_neg z3] at h
        exact o_ri h
    · have : v2 = 0 := by
        refine Int32.toInt_inj.mp ?_
        have a1 := Int32.le_iff_toInt_le.mp hle
        have a2 : ¬ v2.toInt < (0 : Int32).toInt := fun e => w1 (Int32.lt_iff_toInt_lt.mpr e)
        omega
      exact walk (Or.inl this) (by rw [this]; decide) (by rw [this]; decide)
    · rw [e8, Z8.len, nI_clamp hq, s1]
      have nz : ¬ v2 = 0 := fun e => hle (by rw [e]; decide)
      have h0 : 0 ≤ v2 := by
        refine Int32.le_iff_toInt_le.mpr ?_
        have a1 : ¬ v2.toInt < (0 : Int32).toInt := fun e => w1 (Int32.lt_iff_toInt_lt.mpr e)
        omega
      refine ⟨Z8.Y, inq, fun z2 => walk (Or.inr (zst.mp z2)) h0 w2, fun z2 => ?_⟩
      rw [if_neg nz, if_neg (fun e => z2 (zst.mpr e))] at h
      exact o_ri h

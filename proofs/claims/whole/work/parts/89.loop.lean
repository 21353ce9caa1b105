/-! THE LAW'S LOOP -/
section LOOP
variable {l : Launch} {D : va_G} {kA : Nat → ClassId} {x b L : Nat} {xs : Nat → Int32} {ad : Nat → Nat} {nm : String}
theorem l_key {L q : Nat} (hL : L ≤ 2048) (hq : 4 * q ≤ 4096) : nI L - 4 < nI (4 * q) ↔ L < 4 * q + 4 := by
  rw [Int32.lt_iff_toInt_lt, show nI L - (4 : Int32) = nI L - nI 4 from rfl, pk_sub_toInt (by omega) (by decide), nI_toInt (by omega)]
  omega
theorem law_loop (hb : b < x) (h2048 : L ≤ 2048) : ∀ (u q : Nat) (i : o_I) (r : o_R), L < 4 * q + 4 + 4 * u → 4 * q ≤ 2052 → lw_I (g_G l D kA x b L xs ad) x i r → OkC (g_G l D kA x b L xs ad) (mLaw nm) (l_C x b) 18 [some (.ref b), some (.ref x), some (.ref (x + 395)), some (.int (nI (4 * q)))] [] i r := by
  intro u
  induction u with
  | zero =>
    intro q i r hu hq hI
    refine ok_iload_n 3 dL_18 rfl rfl ?_
    refine ok_aload_n 0 dL_19 rfl rfl ?_
    refine ok_slen dL_20 hb ?_
    refine ok_iconst 4 dL_21 (by decide) ?_
    refine ok_isub dL_22 ?_
    refine ok_ic_gt 391 dL_23 (by decide) (fun _ => ?_) (fun w => absurd ((l_key h2048 (by omega)).mpr (by omega)) w)
    exact ok_iconst 1 dL_391 (by decide) l_end
  | succ u ih =>
    intro q i r hu hq hI
    refine ok_iload_n 3 dL_18 rfl rfl ?_
    refine ok_aload_n 0 dL_19 rfl rfl ?_
    refine ok_slen dL_20 hb ?_
    refine ok_iconst 4 dL_21 (by decide) ?_
    refine ok_isub dL_22 ?_
    refine ok_ic_gt 391 dL_23 (by decide) (fun _ => ok_iconst 1 dL_391 (by decide) l_end) (fun w => ?_)
    have hL : 4 * q + 4 ≤ L := by
      have : ¬ L < 4 * q + 4 := fun h => w ((l_key h2048 (by omega)).mpr h)
      omega
    have next : ∀ (j : o_I) (s : o_R), lw_I (g_G l D kA x b L xs ad) x j s → OkC (g_G l D kA x b L xs ad) (mLaw nm) (l_C x b) 385 [some (.ref b), some (.ref x), some (.ref (x + 395)), some (.int (nI (4 * q)))] [] j s := fun j s hI' => by
      refine ok_iinc 4 (nI (4 * (q + 1))) dL_385 rfl (by decide) (nI_add (4 * q) 4).symm (show 3 < 4 by decide) [some (.ref b), some (.ref x), some (.ref (x + 395)), some (.int (nI (4 * (q + 1))))] rfl ?_
      exact ok_goto 18 dL_388 (by decide) (ih (q + 1) j s (by omega) (by omega) hI')
    refine ok_aload_n 0 dL_26 rfl rfl ?_
    refine ok_iload_n 3 dL_27 rfl rfl ?_
    refine ok_sld dL_28 hb (show 4 * q < L by omega) h2048 ?_
    refine ok_bipush 15 dL_29 (by decide) ?_
    refine ok_iand dL_31 ?_
    obtain ⟨k, hk, ek⟩ := pk_andE (xs (4 * q)) (m := 15) 4 (by decide)
    rw [ek]
    have hk : k < 16 := hk
    rcases (show k = 0 ∨ k = 1 ∨ k = 2 ∨ k = 3 ∨ k = 4 ∨ k = 5 ∨ k = 6 ∨ k = 7 ∨ k = 8 ∨ k = 9 ∨ k = 10 ∨ 11 ≤ k by omega) with rfl | rfl | rfl | rfl | rfl | rfl | rfl | rfl | rfl | rfl | rfl | h
    · exact ok_tsIn (off := 60) 92 dL_32 (by decide) (by decide) rfl (by decide) (lc_put hb hL h2048 hI next)
    · exact ok_tsIn (off := 103) 135 dL_32 (by decide) (by decide) rfl (by decide) (lc_clear hb hL h2048 hI next)
    · exact ok_tsIn (off := 126) 158 dL_32 (by decide) (by decide) rfl (by decide) (lc_size hb hL h2048 hI next)
    · exact ok_tsIn (off := 149) 181 dL_32 (by decide) (by decide) rfl (by decide) (lc_call hb hL h2048 hI next)
    · exact ok_tsIn (off := 172) 204 dL_32 (by decide) (by decide) rfl (by decide) (lc_reads hb hL h2048 hI next)
    · exact ok_tsIn (off := 185) 217 dL_32 (by decide) (by decide) rfl (by decide) (lc_place hb hL h2048 hI next)
    · exact ok_tsIn (off := 218) 250 dL_32 (by decide) (by decide) rfl (by decide) (lc_step hb hL h2048 hI next)
    · exact ok_tsIn (off := 251) 283 dL_32 (by decide) (by decide) rfl (by decide) (lc_seen hb hL h2048 hI next)
    · exact ok_tsIn (off := 284) 316 dL_32 (by decide) (by decide) rfl (by decide) (lc_links hb hL h2048 hI next)
    · exact ok_tsIn (off := 317) 349 dL_32 (by decide) (by decide) rfl (by decide) (lc_length hb hL h2048 hI next)
    · exact ok_tsIn (off := 330) 362 dL_32 (by decide) (by decide) rfl (by decide) (lc_letter hb hL h2048 hI next)
    · refine ok_tsOut 385 dL_32 (Or.inr ?_) (by decide) (next i r hI)
      rw [nI_toInt (by omega)]
      omega
end LOOP

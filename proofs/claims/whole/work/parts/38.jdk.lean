/-! THE JDK: charAt, length, indexOf of the texts -/
def k_ch (k j : Nat) : Int32 := (k_sb.getD (k - 2) []).getD j 0
def k_ln (k : Nat) : Nat := k_sl.getD (k - 2) 0
theorem k_all : ∀ n, n < 4 → ∀ j, j < k_sl.getD n 0 → ((((k_sb.getD n []).getD j 0 &&& 255) : Int32).toUInt32 % 65536).toInt32 = (k_sb.getD n []).getD j 0 := by decide +kernel
theorem k_nar : ∀ n, n < 4 → ∀ j, j < k_sl.getD n 0 → vp_nar .char ((k_sb.getD n []).getD j 0) = (k_sb.getD n []).getD j 0 := by decide +kernel
theorem k_lens : ∀ n, n < 4 → k_sl.getD n 0 < 100 := by decide +kernel
theorem k_char : ∀ n, n < 4 → ∀ j, j < k_sl.getD n 0 → ∃ q, q < 128 ∧ (k_sb.getD n []).getD j 0 = nI q := by
  intro n hn j hj
  have h : ∀ n, n < 4 → ∀ j, j < k_sl.getD n 0 → ((k_sb.getD n []).getD j 0).toNatClampNeg < 128 ∧ (k_sb.getD n []).getD j 0 = nI ((k_sb.getD n []).getD j 0).toNatClampNeg := by decide +kernel
  exact ⟨_, (h n hn j hj).1, (h n hn j hj).2⟩
theorem c_isLatin1 {G : o_G} {d : Nat} {i : o_I} {r : o_R} {post : Int32 → o_I → Prop} {k : Nat} (hc : o_cst G) (h2 : 2 ≤ k) (h5 : k ≤ 5) (h : post 1 i) : SpI G (d + 1) mJ_isLatin1 [.ref (o_ad G k)] post i r := by
  refine sp_of 0 (by decide +kernel) (Nat.le_of_ble_eq_true rfl) rfl (sJ_isLatin1_0 k ⟨hc, ⟨fun _ => trivial, fun _ => ⟨h2, h5, trivial⟩⟩, fun x e => ?_⟩)
  have : x = 1 := by rw [e]; decide
  rw [this]
  exact ⟨Or.inr rfl, o_ri h⟩
theorem c_coder {G : o_G} {d : Nat} {i : o_I} {r : o_R} {post : Int32 → o_I → Prop} {k : Nat} (hc : o_cst G) (h2 : 2 ≤ k) (h5 : k ≤ 5) (h : post 0 i) : SpI G (d + 1) mJ_coder [.ref (o_ad G k)] post i r := by
  refine sp_of 0 (by decide +kernel) (Nat.le_of_ble_eq_true rfl) rfl (sJ_coder_0 k ⟨hc, ⟨fun _ => trivial, fun _ => ⟨h2, h5, trivial⟩⟩, fun x e => ?_⟩)
  have : x = 0 := by rw [e]; decide
  rw [this]
  exact ⟨rfl, o_ri h⟩
theorem c_strlen {G : o_G} {d : Nat} {i : o_I} {r : o_R} {post : Int32 → o_I → Prop} {k : Nat} (hc : o_cst G) (h2 : 2 ≤ k) (h5 : k ≤ 5) (h : post (nI (k_ln k)) i) : SpI G (d + 2) mJ_length [.ref (o_ad G k)] post i r := by
  refine sp_of 0 (by decide +kernel) (Nat.le_of_ble_eq_true rfl) rfl (sJ_length_0 k ⟨hc, h2, h5, by omega, by omega, c_coder hc h2 h5 ?_⟩)
  have e : nI (k_sl.getD (k + 8 - 10) 0) >>> ((0 : Int32) &&& 31) = nI (k_ln k) := by
    rw [show k + 8 - 10 = k - 2 by omega, show (0 : Int32) &&& 31 = 0 by decide]
    exact Int32.shiftRight_zero
  rw [e]
  exact o_ri h
theorem c_preCheck {G : o_G} {d : Nat} {i : o_I} {r : o_R} {post : Int32 → o_I → Prop} {x y : Int32} {w : Value} (hw : w = .null ∨ ∃ t : Nat, w = .ref t) (h0 : ¬ x < 0) (h1 : x < y) (h : post x i) : SpI G (d + 1) mJ_preCheck [.int x, .int y, w] post i r := by
  have hg := sJ_preCheck_0 (G := G) (d := d) (P := fun v j q => q = r ∧ ∃ x, v = some (.int x) ∧ post x j) (i := i) (r := r) x y w ⟨fun z => absurd z h0, fun _ => ⟨fun _ => o_ri h, fun z => absurd h1 z⟩⟩
  rcases hw with rfl | ⟨t, rfl⟩
  · exact sp_of 0 (by decide +kernel) (Nat.le_of_ble_eq_true rfl) rfl hg
  · exact sp_of 0 (by decide +kernel) (Nat.le_of_ble_eq_true rfl) rfl hg
theorem c_checkIndex {G : o_G} {d : Nat} {i : o_I} {r : o_R} {post : o_I → Prop} {x y : Int32} (hc : o_cst G) (h0 : ¬ x < 0) (h1 : x < y) (h : post i) : SpV G (d + 2) mJ_checkIndex [.int x, .int y] post i r :=
  sp_of 0 (by decide +kernel) (Nat.le_of_ble_eq_true rfl) rfl (sJ_checkIndex_0 x y ⟨hc, fun _ hw => c_preCheck hw h0 h1 (o_rv h)⟩)
theorem c_latinCharAt {G : o_G} {d : Nat} {i : o_I} {r : o_R} {post : Int32 → o_I → Prop} {k j : Nat} (hc : o_cst G) (h2 : 2 ≤ k) (h5 : k ≤ 5) (hj : j < k_ln k) (hn : narrow .char (.int (k_ch k j)) = .int (k_ch k j)) (h : post (k_ch k j) i) : SpI G (d + 3) mJ_latinCharAt [.ref (o_ad G (k + 8)), .int (nI j)] post i r := by
  have hl := k_lens (k - 2) (by omega)
  have hj' : j < k_sl.getD (k - 2) 0 := hj
  have e1 := k_all (k - 2) (by omega) j hj'
  refine sp_of 0 (by decide +kernel) (Nat.le_of_ble_eq_true rfl) rfl (sJ_latinCharAt_0 (k + 8) _ ⟨hc, by omega, by omega, ?_⟩)
  rw [show k + 8 - 10 = k - 2 by omega, nI_clamp (n := j) (by omega), e1]
  have hp : vp_in (nI j) (k_sl.getD (k - 2) 0) := vp_in_nI hj' (by omega)
  exact c_checkIndex hc (nI_pos (by omega)) (nI_lt hj' (by omega)) (And.intro hp (And.intro hn (o_ri h)))
theorem c_charAt {G : o_G} {d : Nat} {i : o_I} {r : o_R} {post : Int32 → o_I → Prop} {k j : Nat} (hc : o_cst G) (h2 : 2 ≤ k) (h5 : k ≤ 5) (hj : j < k_ln k) (h : post (k_ch k j) i) : SpI G (d + 4) mJ_charAt [.ref (o_ad G k), .int (nI j)] post i r := by
  obtain ⟨q, hq, e2⟩ := k_char (k - 2) (by omega) j hj
  have hn : narrow .char (.int (k_ch k j)) = .int (k_ch k j) := by
    show narrow .char (.int ((k_sb.getD (k - 2) []).getD j 0)) = .int ((k_sb.getD (k - 2) []).getD j 0)
    rw [e2]
    exact (pk_charN (q := q) (by omega)).1
  exact sp_of 0 (by decide +kernel) (Nat.le_of_ble_eq_true rfl) rfl (sJ_charAt_0 k _ ⟨hc, h2, h5, c_isLatin1 hc h2 h5 ⟨fun z => absurd z (by decide), fun _ => c_latinCharAt hc h2 h5 hj hn ⟨hn, o_ri h⟩⟩⟩)
theorem c_canEncode {G : o_G} {d : Nat} {i : o_I} {r : o_R} {post : Int32 → o_I → Prop} {n : Nat} (hn : n < 256) (h : post 1 i) : SpI G (d + 1) mJ_canEncode [.int (nI n)] post i r := by
  refine sp_of 0 (by decide +kernel) (Nat.le_of_ble_eq_true rfl) rfl (sJ_canEncode_0 _ (fun x e => ?_))
  rw [if_neg (nI_pos (by omega)), if_neg (fun z => by have := (nI_ltI (a := 255) (b := n) (by decide) (by omega)).mp z; omega)] at e
  rw [e]
  exact ⟨Or.inr rfl, o_ri h⟩
theorem k_i2b : ∀ n, n < 256 → ∀ b ∈ ([65, 67, 71, 84, 78] : List Int32), (b = (nI n).toInt8.toInt32 ↔ nI n = b) := by decide +kernel
theorem c_indexOfChar {G : o_G} {d : Nat} {i : o_I} {r : o_R} {post : Int32 → o_I → Prop} {n : Nat} (hc : o_cst G) (hn : n < 256) (h : post (px_code (nI n)) i) : SpI G (d + 1) mJ_indexOfChar [.ref (o_ad G 10), .int (nI n), .int (nI 0), .int (nI 5)] post i r := by
  have hk := k_i2b n hn
  have step : ∀ j (b : Int32), j < 5 → k_ch 2 j = b → b ∈ ([65, 67, 71, 84, 78] : List Int32) → (nI n = b → post (nI j) i) → (¬ nI n = b → Ok G (d + 1) mJ_indexOfChar (fun v jj q => q = r ∧ ∃ x, v = some (.int x) ∧ post x jj) 7 [some (.ref (o_ad G 10)), none, none, some (.int (nI 5)), some (.int (nI n).toInt8.toInt32), some (.int (nI (j + 1)))] [] i r) → Ok G (d + 1) mJ_indexOfChar (fun v jj q => q = r ∧ ∃ x, v = some (.int x) ∧ post x jj) 7 [some (.ref (o_ad G 10)), none, none, some (.int (nI 5)), some (.int (nI n).toInt8.toInt32), some (.int (nI j))] [] i r := by
    intro j b hj hb hm h1 h2
    refine sJ_indexOfChar_7 10 _ _ _ ⟨fun z => absurd z (nI_ge (b := 5) hj (by decide)), fun _ => ⟨hc, by decide, by decide, ?_⟩⟩
    rw [nI_clamp (n := j) (by omega), show (k_sb.getD (10 - 10) []).getD j 0 = b from hb]
    refine ⟨vp_in_nI hj (by decide), fun z x7 e7 => ?_, fun z => o_ri (h1 ((hk b hm).mp z))⟩
    rw [e7, nI_1]
    exact h2 (fun w => z ((hk b hm).mpr w))
  unfold px_code at h
  refine sp_of 2 (by decide +kernel) (Nat.le_of_ble_eq_true rfl) rfl (sJ_indexOfChar_0 10 _ _ _ (fun x1 e1 => ?_))
  rw [e1]
  refine step 0 65 (by decide) rfl (by decide) (fun z => by rw [if_pos z] at h; exact h) (fun z0 => ?_)
  rw [if_neg z0] at h
  refine step 1 67 (by decide) rfl (by decide) (fun z => by rw [if_pos z] at h; exact h) (fun z1 => ?_)
  rw [if_neg z1] at h
  refine step 2 71 (by decide) rfl (by decide) (fun z => by rw [if_pos z] at h; exact h) (fun z2 => ?_)
  rw [if_neg z2] at h
  refine step 3 84 (by decide) rfl (by decide) (fun z => by rw [if_pos z] at h; exact h) (fun z3 => ?_)
  rw [if_neg z3] at h
  refine step 4 78 (by decide) rfl (by decide) (fun z => by rw [if_pos z] at h; exact h) (fun z4 => ?_)
  rw [if_neg z4] at h
  exact sJ_indexOfChar_7 10 _ _ _ ⟨fun _ => o_ri h, fun z => absurd (by decide) z⟩
theorem c_latinIndexOf {G : o_G} {d : Nat} {i : o_I} {r : o_R} {post : Int32 → o_I → Prop} {n : Nat} (hc : o_cst G) (hn : n < 256) (h : post (px_code (nI n)) i) : SpI G (d + 2) mJ_latinIndexOf [.ref (o_ad G 10), .int (nI n), .int 0, .int (nI 5)] post i r := by
  refine sp_of 0 (by decide +kernel) (Nat.le_of_ble_eq_true rfl) rfl (sJ_latinIndexOf_0 10 _ _ _ (c_canEncode hn ⟨fun _ x3 e3 => ⟨hc, by decide, by decide, fun x7 e7 => ?_⟩, fun z => absurd z (by decide)⟩))
  have e3 : x3 = nI 0 := by rw [e3]; decide
  have e7 : x7 = nI 5 := by rw [e7]; decide
  rw [e3, e7]
  exact ⟨fun _ => c_indexOfChar hc hn (o_ri h), fun z => absurd (by decide) z⟩
theorem c_indexOfFrom {G : o_G} {d : Nat} {i : o_I} {r : o_R} {post : Int32 → o_I → Prop} {n : Nat} (hc : o_cst G) (hn : n < 256) (h : post (px_code (nI n)) i) : SpI G (d + 3) mJ_indexOfFrom [.ref (o_ad G 2), .int (nI n), .int 0] post i r :=
  sp_of 0 (by decide +kernel) (Nat.le_of_ble_eq_true rfl) rfl (sJ_indexOfFrom_0 2 _ _ ⟨hc, by decide, by decide, c_isLatin1 hc (by decide) (by decide) ⟨fun z => absurd z (by decide), fun _ => c_strlen hc (by decide) (by decide) (c_latinIndexOf hc hn (o_ri h))⟩⟩)
theorem c_indexOf {G : o_G} {d : Nat} {i : o_I} {r : o_R} {post : Int32 → o_I → Prop} {n : Nat} (hc : o_cst G) (hn : n < 256) (h : post (px_code (nI n)) i) : SpI G (d + 4) mJ_indexOf [.ref (o_ad G 2), .int (nI n)] post i r :=
  sp_of 0 (by decide +kernel) (Nat.le_of_ble_eq_true rfl) rfl (sJ_indexOf_0 2 _ ⟨hc, by decide, by decide, c_indexOfFrom hc hn (o_ri h)⟩)

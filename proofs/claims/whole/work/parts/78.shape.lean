/-! THE SHAPES of all cells: the class's at x (395), the reference's behind it (27) -/
def n_rd : List (Nat × Nat) := [(0, 5), (1, 16), (1, 16), (1, 19)]
def n_smp : List (Nat × Nat) := [(0, 6), (2, 8), (1, 48), (4, 8)] ++ (List.replicate 8 n_rd).flatten
def n_sh1 : List (Nat × Nat) := [(0, 0), (0, 9), (2, 100), (0, 9), (2, 420), (0, 3), (0, 3), (0, 1), (3, 17)] ++ List.replicate 17 (1, 20) ++ [(0, 4), (5, 48), (5, 48)]
def n_sh2 : List (Nat × Nat) := [(0, 2), (1, 3), (1, 3), (1, 6), (0, 8), (2, 2229)] ++ n_smp ++ n_smp ++ [(0, 10), (2, 520), (1, 2), (1, 48), (2, 8), (1, 8), (1, 128), (1, 128), (1, 8), (1, 8), (1, 8), (1, 8), (1, 8), (1, 8), (1, 320), (1, 16), (1, 16), (1, 340), (1, 128), (1, 128), (1, 128), (1, 128), (1, 128), (1, 128), (1, 3), (1, 104), (1, 6)]
def n_sh (k : Nat) : Nat × Nat := if k < 29 then n_sh1.getD k (0, 0) else if k < 317 then (if (k - 29) % 3 = 0 then (0, 7) else (1, 8)) else n_sh2.getD (k - 317) (0, 0)
def n_S (x : Nat) : Nat → Nat × Nat := fun a => n_sh (a - x)
theorem n_S_at (x k : Nat) : n_S x (x + k) = n_sh k := by
  unfold n_S
  rw [Nat.add_sub_cancel_left]
theorem n_sh_lo {k : Nat} {q : Nat × Nat} (h : k < 29) (e : n_sh1.getD k (0, 0) = q) : n_sh k = q := by
  unfold n_sh
  rw [if_pos h, e]
theorem n_sh_st {k : Nat} (h1 : 29 ≤ k) (h2 : k < 317) : n_sh k = if (k - 29) % 3 = 0 then (0, 7) else (1, 8) := by
  unfold n_sh
  rw [if_neg (by omega), if_pos h2]
theorem n_sh_hi {k : Nat} {q : Nat × Nat} (h : 317 ≤ k) (e : n_sh2.getD (k - 317) (0, 0) = q) : n_sh k = q := by
  unfold n_sh
  rw [if_neg (by omega), if_neg (by omega), e]
/-- all references of a cell are there -/
def n_full (S : Nat → Nat × Nat) (r : n_R) (a : Nat) : Prop := ((S a).1 = 0 → ∀ k, k < (o_C (S a).2).2.2 → o_rf (S a).2 k = true → ∃ y, r a k = some y) ∧ (3 ≤ (S a).1 → ∀ k, k < (S a).2 → ∃ y, r a k = some y)
def n_r (r : n_R) : o_R := fun a k => (r a k).getD 0
theorem arrV_cg {c : ClassId} {n : Nat} {f g : Nat → Value} (h : ∀ j, j < n → f j = g j) : arrV c n f = arrV c n g := by
  unfold arrV
  congr 1
  exact congrArg Array.ofFn (funext fun j => h j.val j.isLt)
theorem n_o {G : o_G} {x : Nat} {i : o_I} {r : n_R} {H : Heap} (hL : o_L G = List.range' x 422) (h : n_W G x 422 i r H) (hf : ∀ a, x ≤ a → a < x + 422 → n_full (o_S G) r a) : o_W G i (n_r r) H := by
  intro k q hk
  unfold o_w va_pl at hk
  rw [List.getElem?_map] at hk
  obtain ⟨a, ha, rfl⟩ := Option.map_eq_some_iff.mp hk
  rw [hL] at ha
  have hm := List.mem_range'_1.mp (List.mem_of_getElem? ha)
  obtain ⟨f0, f3⟩ := hf a hm.1 hm.2
  have hn := h k (a, n_ce (o_kA G) (o_S G) i r a) (by unfold n_w va_pl; rw [List.getElem?_map, ha]; rfl)
  match hs : (o_S G a).1 with
  | 0 =>
    have hS : o_S G a = (0, (o_S G a).2) := by rw [← hs]
    rw [o_ce_O hS]
    rw [n_ce_O hS] at hn
    have e : o_fs i (n_r r) a (o_S G a).2 = n_fs i r a (o_S G a).2 := by
      apply List.ext_getElem?
      intro m
      by_cases hm : m < (o_C (o_S G a).2).2.2
      · rw [o_fs_get hm, n_fs_get hm]
        unfold o_v n_v
        by_cases hr : o_rf (o_S G a).2 m = true
        · rw [if_pos hr, if_pos hr]
          obtain ⟨y, hy⟩ := f0 hs m hm hr
          unfold n_r
          rw [hy]
          rfl
        · rw [if_neg hr, if_neg hr]
      · rw [List.getElem?_eq_none (by rw [o_fs_len]; omega), List.getElem?_eq_none (by rw [n_fs_len]; omega)]
    rw [e]
    exact hn
  | 1 =>
    rw [o_ce_1 hs]
    rw [n_ce_1 (m := (o_S G a).2) (by rw [← hs])] at hn
    exact hn
  | 2 =>
    rw [o_ce_2 hs]
    rw [n_ce_2 (m := (o_S G a).2) (by rw [← hs])] at hn
    exact hn
  | t + 3 =>
    rw [o_ce_r t hs]
    have hs3 : (o_S G a).1 = t + 3 := hs
    rw [n_ce_r t (m := (o_S G a).2) (by rw [← hs3])] at hn
    show H[a]? = some (vp_cell _ _)
    have hn : H[a]? = some (vp_cell (o_kA G (t + 3)) ((o_S G a).2, .inr (.inr (.inr (.inr (r a)))))) := hn
    rw [hn, vp_cell_q, vp_cell_q]
    congr 1
    refine arrV_cg (fun j hj => ?_)
    obtain ⟨y, hy⟩ := f3 (by omega) j hj
    unfold n_r
    rw [hy]
    rfl
/-- behind the n cells all is empty; all whole numbers are 0 but a read's state -/
def n_I (G : o_G) (x n : Nat) (i : o_I) (r : n_R) : Prop := (∀ a k, x + n ≤ a → i a k = 0 ∧ r a k = none) ∧ ∀ a k, i a k = 0 ∨ (k = 3 ∧ o_S G a = (0, 5))
theorem n_I.le {G : o_G} {x n m : Nat} {i : o_I} {r : n_R} (h : n_I G x n i r) (hm : n ≤ m) : n_I G x m i r := ⟨fun a k ha => h.1 a k (by omega), h.2⟩
theorem n_I.up0 {G : o_G} {x n a k : Nat} {i : o_I} {r : n_R} (h : n_I G x n i r) : n_I G x n (o_up i a k 0) r := by
  refine ⟨fun b m hb => ⟨?_, (h.1 b m hb).2⟩, fun b m => ?_⟩
  · unfold o_up
    split
    · rfl
    · exact (h.1 b m hb).1
  · unfold o_up
    split
    · exact Or.inl rfl
    · exact h.2 b m
theorem n_I.upr {G : o_G} {x n a k y : Nat} {i : o_I} {r : n_R} (h : n_I G x n i r) (ha : a < x + n) : n_I G x n i (n_up r a k (some y)) := ⟨fun b m hb => ⟨(h.1 b m hb).1, by rw [n_up_a (by omega)]; exact (h.1 b m hb).2⟩, h.2⟩
theorem n_I.up1 {G : o_G} {x n a : Nat} {i : o_I} {r : n_R} (h : n_I G x n i r) (hs : o_S G a = (0, 5)) (ha : a < x + n) : n_I G x n (o_up i a 3 1) r := by
  refine ⟨fun b m hb => ⟨?_, (h.1 b m hb).2⟩, fun b m => ?_⟩
  · rw [o_up_a (by omega)]
    exact (h.1 b m hb).1
  · by_cases e : b = a ∧ m = 3
    · rw [e.1, e.2]
      exact Or.inr ⟨rfl, hs⟩
    · unfold o_up
      rw [if_neg e]
      exact h.2 b m

/-! PARSER: begin, expect, taken -/
/-- a parser at p over the text t of room cap -/
def ly_pars (G : o_G) (r : o_R) (p t cap : Nat) : Prop := o_O G p 3 ∧ r p 0 = t ∧ ly_text G r t cap
/-- the text's chars: n of them, lk says which (0 behind the end) -/
def tp_S (i : o_I) (t n : Nat) (lk : Nat → Int32) : Prop := i t 1 = nI n ∧ (∀ k, k < n → i (t + 1) k = lk k ∧ tx_al (lk k)) ∧ ∀ k, n ≤ k → lk k = 0
/-- the parser's place, and whether something is wrong -/
def ps_S (i : o_I) (p a : Nat) (w : Bool) : Prop := i p 1 = nI a ∧ i p 2 = (if w = true then 1 else 0)
theorem ps_w {i : o_I} {p a : Nat} {w : Bool} (h : ps_S i p a w) : i p 2 = 0 ↔ w = false := by
  rw [h.2]
  cases w <;> simp
theorem c_begin {G : o_G} {d : Nat} {i : o_I} {r : o_R} {post : o_I → Prop} {p : Nat} (hO : o_O G p 3) (h : post (o_up (o_up i p 1 0) p 2 0)) : SpV G (d + 1) mX3_begin [.ref p] post i r := by
  refine sp_of 0 (by decide +kernel) (Nat.le_of_ble_eq_true rfl) rfl (sX3_begin_0 p ⟨hO, fun i2 e2 i3 e3 => ?_⟩)
  rw [e3, e2]
  exact o_rv h
theorem c_expect {G : o_G} {d : Nat} {i : o_I} {r : o_R} {post : o_I → Prop} {p t cap n a : Nat} {w : Bool} {lk : Nat → Int32} {c : Int32} (hp : ly_pars G r p t cap) (ht : tp_S i t n lk) (hn : n ≤ cap) (hcap : cap < 2 ^ 30) (hs : ps_S i p a w) (ha : a < 2 ^ 30) (hc : ¬ (0 : Int32) = c) (h1 : w = false → lk a = c → post (o_up i p 1 (nI (a + 1)))) (h0 : ¬ (w = false ∧ lk a = c) → post (o_up i p 2 1)) : SpV G (d + 1) mX3_expect [.ref p, .int c] post i r := by
  obtain ⟨hO, er, hT, et, hZ⟩ := hp
  have hw := ps_w hs
  refine sp_of 0 (by decide +kernel) (Nat.le_of_ble_eq_true rfl) rfl (sX3_expect_0 p c ?_)
  rw [er, et, hs.1, ht.1, hZ.len, nI_leI (by omega) (by omega), nI_clamp (by omega)]
  refine ⟨hO, fun hw' i3 e3 => ?_, fun hw' => ⟨hT, fun hle i6 e6 => ?_, fun hle => ⟨hZ.Y, vp_in_nI (by omega) (by omega), fun hne i10 e10 => ?_, fun he i11 e11 => ?_⟩⟩⟩
  · rw [e3]
    exact o_rv (h0 (fun q => hw' (hw.mpr q.1)))
  · rw [e6]
    exact o_rv (h0 (fun q => hc (by rw [← q.2, ht.2.2 a hle])))
  · rw [e10]
    refine o_rv (h0 (fun q => hne ?_))
    rw [(ht.2.1 a (by omega)).1]
    exact q.2
  · rw [e11, nI_1]
    refine o_rv (h1 (hw.mp hw') ?_)
    rw [← (ht.2.1 a (by omega)).1]
    exact he

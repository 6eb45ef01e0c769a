/-! X: its private methods, one lemma each -/
theorem gb_ix (r j : Nat) : nI r * 4 + nI j = nI (r * 4 + j) := by
  show nI r * nI 4 + nI j = _
  rw [pk_mul, nI_add]
section
variable {n R c : Nat} {fr st bv bc : Int32} {ob lo hi kd rh a : Nat → Int32}
theorem gx_isVar {post : Int32 → Prop} {v : Int32} (hn : n ≤ 4) (h1 : ∀ j, j < n → v = nI j → post 1) (h0 : v < 0 ∨ nI n ≤ v → post 0) : wpX_isVar post (nI n, fr, st, bv, bc, ob, lo, hi, kd, rh, a) v := by
  unfold wpX_isVar
  rcases pk_ix v (show n < 2 ^ 31 by omega) with h | h | ⟨j, hj, e⟩
  · exact br_t h (h0 (Or.inl h))
  · by_cases h' : v < 0
    · exact br_t h' (h0 (Or.inl h'))
    · exact br_f h' (br_t h (h0 (Or.inr h)))
  · have hp : ¬ v < 0 := by rw [e]; exact nI_pos (by omega)
    have hq : ¬ nI n ≤ v := by rw [e]; exact nI_ge hj (by omega)
    exact br_f hp (br_f hq (h1 j hj e))
theorem gx_isRow {post : Int32 → Prop} {v : Int32} {fn : Int32} (hR : R ≤ 8) (h1 : ∀ j, j < R → v = nI j → post 1) (h0 : v < 0 ∨ nI R ≤ v → post 0) : wpX_isRow post (fn, nI R, st, bv, bc, ob, lo, hi, kd, rh, a) v := by
  unfold wpX_isRow
  rcases pk_ix v (show R < 2 ^ 31 by omega) with h | h | ⟨j, hj, e⟩
  · exact br_t h (h0 (Or.inl h))
  · by_cases h' : v < 0
    · exact br_t h' (h0 (Or.inl h'))
    · exact br_f h' (br_t h (h0 (Or.inr h)))
  · have hp : ¬ v < 0 := by rw [e]; exact nI_pos (by omega)
    have hq : ¬ nI R ≤ v := by rw [e]; exact nI_ge hj (by omega)
    exact br_f hp (br_f hq (h1 j hj e))
theorem gx_co {post : Int32 → Prop} {v : Nat} (hn : n ≤ 4) (hc : c < 4096) (hv : v < n) (h : post (gb_x n c v)) : wpX_coordinate post (nI n, fr, st, bv, bc, ob, lo, hi, kd, rh, a) (nI c) (nI v) := by
  have e := gb_digX (n := n) (c := c) (v := v) hn (by omega) hv
  unfold wpX_coordinate
  dsimp only
  rw [e]
  exact h
theorem gx_rsL {post : Int32 → Prop} {r : Nat} (hn : n ≤ 4) (hc : c < 4096) (hr : r < 8) (h : post (gb_rs a n (gb_x n c) r)) : ∀ d j, j + d = n → wX_rowSum_5 post (nI r) (nI c) (nI n) fr st bv bc ob lo hi kd rh a (d + 1) (gb_sum (fun j => a (r * 4 + j)) (gb_x n c) j) (nI j) := by
  intro d
  induction d with
  | zero =>
    intro j hj
    have e : j = n := by omega
    subst e
    exact br_t (nI_le (by omega) (by omega)) h
  | succ d ih =>
    intro j hj
    have i1 := gb_ix r j
    have i2 : (nI r * 4 + nI j).toNatClampNeg = r * 4 + j := by rw [i1]; exact nI_clamp (by omega)
    have i3 : vp_in (nI r * 4 + nI j) 32 := by rw [i1]; exact vp_in_nI (by omega) (by omega)
    refine br_f (nI_ge (by omega) (by omega)) ⟨i3, gx_co hn hc (by omega) ?_⟩
    refine nm_r ?_ (nm_r (nI_1 j) (ih (j + 1) (by omega)))
    rw [i2]
    rfl
theorem gx_rs {post : Int32 → Prop} {r : Nat} (hn : n ≤ 4) (hc : c < 4096) (hr : r < 8) (h : post (gb_rs a n (gb_x n c) r)) : wpX_rowSum post (nI n, fr, st, bv, bc, ob, lo, hi, kd, rh, a) (nI r) (nI c) := by
  unfold wpX_rowSum
  exact ⟨n + 1, gx_rsL hn hc hr h n 0 (by omega)⟩
theorem gx_osL {post : Int32 → Prop} (hn : n ≤ 4) (hc : c < 4096) (h : post (gb_V ob n c)) : ∀ d j, j + d = n → wX_objectiveSum_4 post (nI c) (nI n) fr st bv bc ob lo hi kd rh a (d + 1) (gb_sum ob (gb_x n c) j) (nI j) := by
  intro d
  induction d with
  | zero =>
    intro j hj
    have e : j = n := by omega
    subst e
    exact br_t (nI_le (by omega) (by omega)) h
  | succ d ih =>
    intro j hj
    have i2 : (nI j).toNatClampNeg = j := nI_clamp (by omega)
    refine br_f (nI_ge (by omega) (by omega)) ⟨vp_in_nI (by omega) (by omega), gx_co hn hc (by omega) ?_⟩
    refine nm_r ?_ (nm_r (nI_1 j) (ih (j + 1) (by omega)))
    rw [i2]
    rfl
theorem gx_os {post : Int32 → Prop} (hn : n ≤ 4) (hc : c < 4096) (h : post (gb_V ob n c)) : wpX_objectiveSum post (nI n, fr, st, bv, bc, ob, lo, hi, kd, rh, a) (nI c) := by
  unfold wpX_objectiveSum
  exact ⟨n + 1, gx_osL hn hc h n 0 (by omega)⟩
theorem gx_boxL {post : Int32 → Prop} (hn : n ≤ 4) (hc : c < 4096) (h1 : gb_box lo hi n (gb_x n c) → post 1) (h0 : ¬ gb_box lo hi n (gb_x n c) → post 0) : ∀ d j, j + d = n → (∀ i, i < j → gb_in lo hi (gb_x n c) i) → wX_isInBox_2 post (nI c) (nI n) fr st bv bc ob lo hi kd rh a (d + 1) (nI j) := by
  intro d
  induction d with
  | zero =>
    intro j hj hb
    have e : j = n := by omega
    subst e
    exact br_t (nI_le (by omega) (by omega)) (h1 hb)
  | succ d ih =>
    intro j hj hb
    have i2 : (nI j).toNatClampNeg = j := nI_clamp (by omega)
    have i3 : vp_in (nI j) 4 := vp_in_nI (by omega) (by omega)
    refine br_f (nI_ge (by omega) (by omega)) (gx_co hn hc (by omega) (nm_e ⟨i3, ?_⟩))
    rw [i2]
    by_cases hl : gb_x n c j < lo j
    · exact br_t hl (h0 fun z => (z j (by omega)).1 hl)
    · by_cases hh : hi j < gb_x n c j
      · exact br_f hl ⟨i3, br_f (Int32.not_le.mpr hh) (h0 fun z => (z j (by omega)).2 hh)⟩
      · refine br_f hl ⟨i3, br_t (Int32.not_lt.mp hh) (nm_r (nI_1 j) (ih (j + 1) (by omega) ?_))⟩
        intro i hi'
        by_cases e : i = j
        · rw [e]; exact ⟨hl, hh⟩
        · exact hb i (by omega)
theorem gx_box {post : Int32 → Prop} (hn : n ≤ 4) (hc : c < 4096) (h1 : gb_box lo hi n (gb_x n c) → post 1) (h0 : ¬ gb_box lo hi n (gb_x n c) → post 0) : wpX_isInBox post (nI n, fr, st, bv, bc, ob, lo, hi, kd, rh, a) (nI c) := by
  unfold wpX_isInBox
  exact ⟨n + 1, gx_boxL hn hc h1 h0 n 0 (by omega) (fun i hi' => absurd hi' (Nat.not_lt_zero i))⟩
end

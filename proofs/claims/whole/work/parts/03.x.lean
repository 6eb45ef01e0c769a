/-! X: its private methods, one lemma each -/
theorem gb_ix (r j : Nat) : nI r * 4 + nI j = nI (r * 4 + j) := by
  show nI r * nI 4 + nI j = _
  rw [pk_mul, nI_add]
section
variable {n R c : Nat} {fr st bv bc : Int32} {ob lo hi kd rh a : Nat → Int32}
theorem gx_isVar {post : Int32 → Prop} {v : Int32} (hn : n ≤ 4) (h1 : ∀ j, j < n → v = nI j → post 1) (h0 : v < 0 ∨ nI n ≤ v → post 0) : wpX_isVar post (nI n, fr, st, bv, bc, ob, lo, hi, kd, rh, a) v := by
  unfold wpX_isVar
  rcases pk_ix v (show n < 2 ^ 31 by omega) with h | h | ⟨j, hj, e⟩
  · exact br_t h (h0 (Or.inl h))
  · by_cases h' : v < 0
    · exact br_t h' (h0 (Or.inl h'))
    · exact br_f h' (br_t h (h0 (Or.inr h)))
  · have hp : ¬ v < 0 := by rw [e]; exact nI_pos (by omega)
    have hq : ¬ nI n ≤ v := by rw [e]; exact nI_ge hj (by omega)
    exact br_f hp (br_f hq (h1 j hj e))
theorem gx_isRow {post : Int32 → Prop} {v : Int32} {fn : Int32} (hR : R ≤ 8) (h1 : ∀ j, j < R → v = nI j → post 1) (h0 : v < 0 ∨ nI R ≤ v → post 0) : wpX_isRow post (fn, nI R, st, bv, bc, ob, lo, hi, kd, rh, a) v := by
  unfold wpX_isRow
  rcases pk_ix v (show R < 2 ^ 31 by omega) with h | h | ⟨j, hj, e⟩
  · exact br_t h (h0 (Or.inl h))
  · by_cases h' : v < 0
    · exact br_t h' (h0 (Or.inl h'))
    · exact br_f h' (br_t h (h0 (Or.inr h)))
  · have hp : ¬ v < 0 := by rw [e]; exact nI_pos (by omega)
    have hq : ¬ nI R ≤ v := by rw [e]; exact nI_ge hj (by omega)
    exact br_f hp (br_f hq (h1 j hj e))
theorem gx_co {post : Int32 → Prop} {v : Nat} (hn : n ≤ 4) (hc : c < 4096) (hv : v < n) (h : post (gb_x n c v)) : wpX_coordinate post (nI n, fr, st, bv, bc, ob, lo, hi, kd, rh, a) (nI c) (nI v) := by
  have e := gb_digX (n := n) (c := c) (v := v) hn (by omega) hv
  unfold wpX_coordinate
  dsimp only
  rw [e]
  exact h
theorem gx_rsL {post : Int32 → Prop} {r : Nat} (hn : n ≤ 4) (hc : c < 4096) (hr : r < 8) (h : post (gb_rs a n (gb_x n c) r)) : ∀ d j, j + d = n → wX_rowSum_5 post (nI r) (nI c) (nI n) fr st bv bc ob lo hi kd rh a (d + 1) (gb_sum (fun j => a (r * 4 + j)) (gb_x n c) j) (nI j) := by
  intro d
  induction d with
  | zero =>
    intro j hj
    have e : j = n := by omega
    subst e
    exact br_t (nI_le (by omega) (by omega)) h
  | succ d ih =>
    intro j hj
    have i1 := gb_ix r j
    have i2 : (nI r * 4 + nI j).toNatClampNeg = r * 4 + j := by rw [i1]; exact nI_clamp (by omega)
    have i3 : vp_in (nI r * 4 + nI j) 32 := by rw [i1]; exact vp_in_nI (by omega) (by omega)
    refine br_f (nI_ge (by omega) (by omega)) ⟨i3, gx_co hn hc (by omega) ?_⟩
    refine nm_r ?_ (nm_r (nI_1 j) (ih (j + 1) (by omega)))
    rw [i2]
    rfl
theorem gx_rs {post : Int32 → Prop} {r : Nat} (hn : n ≤ 4) (hc : c < 4096) (hr : r < 8) (h : post (gb_rs a n (gb_x n c) r)) : wpX_rowSum post (nI n, fr, st, bv, bc, ob, lo, hi, kd, rh, a) (nI r) (nI c) := by
  unfold wpX_rowSum
  exact ⟨n + 1, gx_rsL hn hc hr h n 0 (by omega)⟩
theorem gx_osL {post : Int32 → Prop} (hn : n ≤ 4) (hc : c < 4096) (h : post (gb_V ob n c)) : ∀ d j, j + d = n → wX_objectiveSum_4 post (nI c) (nI n) fr st bv bc ob lo hi kd rh a (d + 1) (gb_sum ob (gb_x n c) j) (nI j) := by
  intro d
  induction d with
  | zero =>
    intro j hj
    have e : j = n := by omega
    subst e
    exact br_t (nI_le (by omega) (by omega)) h
  | succ d ih =>
    intro j hj
    have i2 : (nI j).toNatClampNeg = j := nI_clamp (by omega)
    refine br_f (nI_ge (by omega) (by omega)) ⟨vp_in_nI (by omega) (by omega), gx_co hn hc (by omega) ?_⟩
    refine nm_r ?_ (nm_r (nI_1 j) (ih (j + 1) (by omega)))
    rw [i2]
    rfl
theorem gx_os {post : Int32 → Prop} (hn : n ≤ 4) (hc : c < 4096) (h : post (gb_V ob n c)) : wpX_objectiveSum post (nI n, fr, st, bv, bc, ob, lo, hi, kd, rh, a) (nI c) := by
  unfold wpX_objectiveSum
  exact ⟨n + 1, gx_osL hn hc h n 0 (by omega)⟩
theorem gx_boxL {post : Int32 → Prop} (hn : n ≤ 4) (hc : c < 4096) (h1 : gb_box lo hi n (gb_x n c) → post 1) (h0 : ¬ gb_box lo hi n (gb_x n c) → post 0) : ∀ d j, j + d = n → (∀ i, i < j → gb_in lo hi (gb_x n c) i) → wX_isInBox_2 post (nI c) (nI n) fr st bv bc ob lo hi kd rh a (d + 1) (nI j) := by
  intro d
  induction d with
  | zero =>
    intro j hj hb
    have e : j = n := by omega
    subst e
    exact br_t (nI_le (by omega) (by omega)) (h1 hb)
  | succ d ih =>
    intro j hj hb
    have i2 : (nI j).toNatClampNeg = j := nI_clamp (by omega)
    have i3 : vp_in (nI j) 4 := vp_in_nI (by omega) (by omega)
    refine br_f (nI_ge (by omega) (by omega)) (gx_co hn hc (by omega) ⟨i3, ?_⟩)
    rw [i2]
    by_cases hl : gb_x n c j < lo j
    · exact br_t hl (h0 fun z => (z j (by omega)).1 hl)
    · by_cases hh : hi j < gb_x n c j
      · exact br_f hl ⟨i3, br_f (Int32.not_le.mpr hh) (h0 fun z => (z j (by omega)).2 hh)⟩
      · refine br_f hl ⟨i3, br_t (Int32.not_lt.mp hh) (nm_r (nI_1 j) (ih (j + 1) (by omega) ?_))⟩
        intro i hi'
        by_cases e : i = j
        · rw [e]; exact ⟨hl, hh⟩
        · exact hb i (by omega)
theorem gx_box {post : Int32 → Prop} (hn : n ≤ 4) (hc : c < 4096) (h1 : gb_box lo hi n (gb_x n c) → post 1) (h0 : ¬ gb_box lo hi n (gb_x n c) → post 0) : wpX_isInBox post (nI n, fr, st, bv, bc, ob, lo, hi, kd, rh, a) (nI c) := by
  unfold wpX_isInBox
  exact ⟨n + 1, gx_boxL hn hc h1 h0 n 0 (by omega) (fun i hi' => absurd hi' (Nat.not_lt_zero i))⟩
theorem gx_mr {post : Int32 → Prop} {r : Nat} (hn : n ≤ 4) (hc : c < 4096) (hr : r < 8) (hk : kd r = 1 ∨ kd r = 2 ∨ kd r = 3) (h1 : gb_row kd rh a n (gb_x n c) r → post 1) (h0 : ¬ gb_row kd rh a n (gb_x n c) r → post 0) : wpX_meetsRow post (nI n, fr, st, bv, bc, ob, lo, hi, kd, rh, a) (nI r) (nI c) := by
  have i2 : (nI r).toNatClampNeg = r := nI_clamp (by omega)
  have i3 : vp_in (nI r) 8 := vp_in_nI hr (by omega)
  unfold wpX_meetsRow
  dsimp only
  rw [i2]
  refine gx_rs hn hc hr ⟨i3, ?_⟩
  rcases hk with k1 | k1 | k1
  · have n2 : ¬ kd r = 2 := by rw [k1]; decide
    have n3 : ¬ kd r = 3 := by rw [k1]; decide
    by_cases h : rh r < gb_rs a n (gb_x n c) r
    · exact br_t k1 ⟨i3, br_t h (h0 fun z => absurd h (Int32.not_lt.mpr (z.1 k1)))⟩
    · exact br_t k1 ⟨i3, br_f h (h1 ⟨fun _ => Int32.not_lt.mp h, fun e => absurd e n2, fun e => absurd e n3⟩)⟩
  · have n1 : ¬ kd r = 1 := by rw [k1]; decide
    have n3 : ¬ kd r = 3 := by rw [k1]; decide
    by_cases h : gb_rs a n (gb_x n c) r < rh r
    · exact br_f n1 ⟨i3, br_t k1 ⟨i3, br_t h (h0 fun z => absurd h (Int32.not_lt.mpr (z.2.1 k1)))⟩⟩
    · exact br_f n1 ⟨i3, br_t k1 ⟨i3, br_f h (h1 ⟨fun e => absurd e n1, fun _ => Int32.not_lt.mp h, fun e => absurd e n3⟩)⟩⟩
  · have n1 : ¬ kd r = 1 := by rw [k1]; decide
    have n2 : ¬ kd r = 2 := by rw [k1]; decide
    by_cases h : gb_rs a n (gb_x n c) r = rh r
    · exact br_f n1 ⟨i3, br_f n2 ⟨i3, br_t h (h1 ⟨fun e => absurd e n1, fun e => absurd e n2, fun _ => h⟩)⟩⟩
    · exact br_f n1 ⟨i3, br_f n2 ⟨i3, br_f h (h0 fun z => h (z.2.2 k1))⟩⟩
theorem gx_marL {post : Int32 → Prop} (hn : n ≤ 4) (hc : c < 4096) (hR : R ≤ 8) (hk : ∀ r, r < R → kd r = 1 ∨ kd r = 2 ∨ kd r = 3) (h1 : gb_rows kd rh a n R (gb_x n c) → post 1) (h0 : ¬ gb_rows kd rh a n R (gb_x n c) → post 0) : ∀ d r, r + d = R → (∀ i, i < r → gb_row kd rh a n (gb_x n c) i) → wX_meetsAllRows_2 post (nI c) (nI n) (nI R) st bv bc ob lo hi kd rh a (d + 1) (nI r) := by
  intro d
  induction d with
  | zero =>
    intro r hr hb
    have e : r = R := by omega
    subst e
    exact br_t (nI_le (by omega) (by omega)) (h1 hb)
  | succ d ih =>
    intro r hr hb
    refine br_f (nI_ge (by omega) (by omega)) (gx_mr hn hc (by omega) (hk r (by omega)) (fun z => ?_) (fun z => ?_))
    · exact br_f (by decide) (nm_r (nI_1 r) (ih (r + 1) (by omega) (lt_s hb z)))
    · exact br_t rfl (h0 fun w => z (w r (by omega)))
theorem gx_mar {post : Int32 → Prop} (hn : n ≤ 4) (hc : c < 4096) (hR : R ≤ 8) (hk : ∀ r, r < R → kd r = 1 ∨ kd r = 2 ∨ kd r = 3) (h1 : gb_rows kd rh a n R (gb_x n c) → post 1) (h0 : ¬ gb_rows kd rh a n R (gb_x n c) → post 0) : wpX_meetsAllRows post (nI n, nI R, st, bv, bc, ob, lo, hi, kd, rh, a) (nI c) := by
  unfold wpX_meetsAllRows
  exact ⟨R + 1, gx_marL hn hc hR hk h1 h0 R 0 (by omega) (fun i hi' => absurd hi' (Nat.not_lt_zero i))⟩
theorem gx_keep {post : SX → Prop} {o : Option Nat} (hn : n ≤ 4) (hc : c < 4096) (h : post (nI n, fr, gb_st (gb_up (gb_V ob n) o c), gb_bv (gb_V ob n) (gb_up (gb_V ob n) o c), gb_bc (gb_up (gb_V ob n) o c), ob, lo, hi, kd, rh, a)) : wpX_keepIfBetter post (nI n, fr, gb_st o, gb_bv (gb_V ob n) o, gb_bc o, ob, lo, hi, kd, rh, a) (nI c) := by
  unfold wpX_keepIfBetter
  dsimp only
  refine gx_os hn hc ?_
  cases o with
  | none => exact br_f (show ¬ (2 : Int32) = 1 by decide) h
  | some b =>
    by_cases hv : gb_V ob n b < gb_V ob n c
    · have e : gb_up (gb_V ob n) (some b) c = some c := if_pos hv
      rw [e] at h
      exact br_t rfl (br_f (Int32.not_le.mpr hv) h)
    · have e : gb_up (gb_V ob n) (some b) c = some b := if_neg hv
      rw [e] at h
      exact br_t rfl (br_t (Int32.not_lt.mp hv) h)
theorem gx_solveL {post : Int32 → SX → Prop} {M : Nat} (hM : M ≤ 4096) (hn : n ≤ 4) (hR : R ≤ 8) (hk : ∀ r, r < R → kd r = 1 ∨ kd r = 2 ∨ kd r = 3)
    (hp : post (gb_st (gb_F (gb_P lo hi kd rh a n R) (gb_V ob n) M)) (nI n, nI R, gb_st (gb_F (gb_P lo hi kd rh a n R) (gb_V ob n) M), gb_bv (gb_V ob n) (gb_F (gb_P lo hi kd rh a n R) (gb_V ob n) M), gb_bc (gb_F (gb_P lo hi kd rh a n R) (gb_V ob n) M), ob, lo, hi, kd, rh, a)) :
    ∀ d c, c + d = M → wX_solve_26 post (nI M) (d + 1) (nI c) (nI n) (nI R) (gb_st (gb_F (gb_P lo hi kd rh a n R) (gb_V ob n) c)) (gb_bv (gb_V ob n) (gb_F (gb_P lo hi kd rh a n R) (gb_V ob n) c)) (gb_bc (gb_F (gb_P lo hi kd rh a n R) (gb_V ob n) c)) ob lo hi kd rh a := by
  intro d
  induction d with
  | zero =>
    intro c hc
    have e : c = M := by omega
    subst e
    exact br_t (nI_le (by omega) (by omega)) hp
  | succ d ih =>
    intro c hc
    have w := ih (c + 1) (by omega)
    refine br_f (nI_ge (by omega) (by omega)) (gx_box hn (by omega) (fun zb => ?_) (fun zb => ?_))
    · refine br_f (by decide) (gx_mar hn (by omega) hR hk (fun zr => ?_) (fun zr => ?_))
      · have e : gb_F (gb_P lo hi kd rh a n R) (gb_V ob n) (c + 1) = gb_up (gb_V ob n) (gb_F (gb_P lo hi kd rh a n R) (gb_V ob n) c) c := gb_Fy ⟨zb, zr⟩
        rw [e] at w
        exact br_f (by decide) (gx_keep hn (by omega) (nm_r (nI_1 c) w))
      · have e : gb_F (gb_P lo hi kd rh a n R) (gb_V ob n) (c + 1) = gb_F (gb_P lo hi kd rh a n R) (gb_V ob n) c := gb_Fn (fun z => zr z.2)
        rw [e] at w
        exact br_t rfl (nm_r (nI_1 c) w)
    · have e : gb_F (gb_P lo hi kd rh a n R) (gb_V ob n) (c + 1) = gb_F (gb_P lo hi kd rh a n R) (gb_V ob n) c := gb_Fn (fun z => zb z.1)
      rw [e] at w
      exact br_t rfl (nm_r (nI_1 c) w)
theorem gx_solve {post : Int32 → SX → Prop} (hn : n ≤ 4) (hR : R ≤ 8) (hk : ∀ r, r < R → kd r = 1 ∨ kd r = 2 ∨ kd r = 3)
    (hp : post (gb_st (gb_F (gb_P lo hi kd rh a n R) (gb_V ob n) (8 ^ n))) (nI n, nI R, gb_st (gb_F (gb_P lo hi kd rh a n R) (gb_V ob n) (8 ^ n)), gb_bv (gb_V ob n) (gb_F (gb_P lo hi kd rh a n R) (gb_V ob n) (8 ^ n)), gb_bc (gb_F (gb_P lo hi kd rh a n R) (gb_V ob n) (8 ^ n)), ob, lo, hi, kd, rh, a)) :
    wpX_solve post (nI n, nI R, st, bv, bc, ob, lo, hi, kd, rh, a) := by
  have h4 := gb_c4 n (by omega)
  have hc := gb_codes n (by omega)
  unfold wpX_solve
  dsimp only
  refine nm_r hc ⟨8 ^ n + 1, ?_⟩
  exact gx_solveL h4 hn hR hk hp (8 ^ n) 0 (Nat.zero_add _)
theorem gx_iniL {post : SX → Prop} {fn : Int32} (h : post (fn, fr, st, bv, bc, ob, lo, gb_fill hi 0 7 4, kd, rh, a)) : ∀ d j, j + d = 4 → wX_init_94 post fn fr st bv bc (d + 1) (nI j) ob lo (gb_fill hi 0 7 j) kd rh a := by
  intro d
  induction d with
  | zero =>
    intro j hj
    have e : j = 4 := by omega
    subst e
    exact br_t (nI_le (a := 4) (by omega) (by omega)) h
  | succ d ih =>
    intro j hj
    have i2 : (nI j).toNatClampNeg = j := nI_clamp (by omega)
    have e : upd (gb_fill hi 0 7 j) (nI j).toNatClampNeg 7 = gb_fill hi 0 7 (j + 1) := by
      rw [i2]
      show upd _ j 7 = upd _ (0 + j) 7
      rw [Nat.zero_add]
    exact br_f (nI_ge (b := 4) (by omega) (by omega)) ⟨vp_in_nI (by omega) (by omega), nm_r e (nm_r (nI_1 j) (ih (j + 1) (by omega)))⟩
theorem gx_ini {post : SX → Prop} {fn : Int32} (h : post (fn, fr, st, bv, bc, ob, lo, gb_fill hi 0 7 4, kd, rh, a)) : ∃ m, wX_init_94 post fn fr st bv bc m 0 ob lo hi kd rh a :=
  ⟨4 + 1, gx_iniL h 4 0 (by omega)⟩
theorem gx_clL {post : SX → Prop} {fn : Int32} {r : Nat} (hr : r < 8) (h : post (fn, fr, st, bv, bc, ob, lo, hi, kd, rh, gb_fill a (r * 4) 0 4)) : ∀ d j, j + d = 4 → wX_clearCoefs_2 post (nI r) fn fr st bv bc (d + 1) (nI j) ob lo hi kd rh (gb_fill a (r * 4) 0 j) := by
  intro d
  induction d with
  | zero =>
    intro j hj
    have e : j = 4 := by omega
    subst e
    exact br_t (nI_le (a := 4) (by omega) (by omega)) h
  | succ d ih =>
    intro j hj
    have i1 := gb_ix r j
    have i2 : (nI r * 4 + nI j).toNatClampNeg = r * 4 + j := by rw [i1]; exact nI_clamp (by omega)
    have i3 : vp_in (nI r * 4 + nI j) 32 := by rw [i1]; exact vp_in_nI (by omega) (by omega)
    have e : upd (gb_fill a (r * 4) 0 j) (nI r * 4 + nI j).toNatClampNeg 0 = gb_fill a (r * 4) 0 (j + 1) := by
      rw [i2]
      rfl
    exact br_f (nI_ge (b := 4) (by omega) (by omega)) ⟨i3, nm_r e (nm_r (nI_1 j) (ih (j + 1) (by omega)))⟩
theorem gx_cl {post : SX → Prop} {fn : Int32} {r : Nat} (hr : r < 8) (h : post (fn, fr, st, bv, bc, ob, lo, hi, kd, rh, gb_fill a (r * 4) 0 4)) : wpX_clearCoefs post (fn, fr, st, bv, bc, ob, lo, hi, kd, rh, a) (nI r) := by
  unfold wpX_clearCoefs
  exact ⟨4 + 1, gx_clL hr h 4 0 (by omega)⟩
theorem gx_isCoef {post : Int32 → Prop} {x : Int32} (h1 : ¬ x < -9 → ¬ 9 < x → post 1) (h0 : x < -9 ∨ 9 < x → post 0) : wpX_isCoef post x := by
  by_cases a1 : x < -9
  · exact br_t a1 (h0 (Or.inl a1))
  · by_cases a2 : 9 < x
    · exact br_f a1 (br_t a2 (h0 (Or.inr a2)))
    · exact br_f a1 (br_f a2 (h1 a1 a2))
theorem gx_isKind {post : Int32 → Prop} {x : Int32} (h1 : x = 1 ∨ x = 2 ∨ x = 3 → post 1) (h0 : ¬ (x = 1 ∨ x = 2 ∨ x = 3) → post 0) : wpX_isKind post x := by
  by_cases a1 : x = 1
  · exact br_t a1 (h1 (Or.inl a1))
  · by_cases a2 : x = 2
    · exact br_f a1 (br_t a2 (h1 (Or.inr (Or.inl a2))))
    · by_cases a3 : x = 3
      · exact br_f a1 (br_f a2 (br_t a3 (h1 (Or.inr (Or.inr a3)))))
      · exact br_f a1 (br_f a2 (br_f a3 (h0 fun z => z.elim a1 fun z => z.elim a2 a3)))
end

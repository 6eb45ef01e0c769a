/-! Y: its private methods and its loops -/
def gb_fl (x : Int32) (P : Prop) : Prop := (x = 1 ∧ P) ∨ (x = 0 ∧ ¬ P)
theorem gb_fls {lo hi y : Nat → Int32} {n j : Nat} {x : Int32} (h : gb_fl x (gb_ks lo hi n y j)) (k : gb_k1 lo hi n y j) : gb_fl x (gb_ks lo hi n y (j + 1)) := by
  rcases h with ⟨e, h⟩ | ⟨e, h⟩
  · exact Or.inl ⟨e, lt_s h k⟩
  · exact Or.inr ⟨e, fun w => h fun i hi' => w i (by omega)⟩
theorem gb_fl0 {lo hi y : Nat → Int32} {n j : Nat} (k : ¬ gb_k1 lo hi n y j) : gb_fl 0 (gb_ks lo hi n y (j + 1)) :=
  Or.inr ⟨rfl, fun w => k (w j (by omega))⟩
theorem gb_ptk {k : Nat} {cur pt : Nat → Int32} (hp : ∀ i, i < 4 → pt i = cur i) (hc : ∀ i, i < 4 → cur i = gb_y k i) : gb_pt (some k) pt := by
  intro b hb j hj
  cases hb
  rw [hp j hj]
  exact hc j hj
section
variable {n R k : Nat} {fr st vl : Int32} {ob lo hi kd rh a cur pt : Nat → Int32}
theorem gy_rsL {post : Int32 → Prop} {r : Nat} (hn : n ≤ 4) (hr : r < 8) (h : post (gb_rs a n cur r)) : ∀ d j, j + d = n → wY_rowSum_4 post (nI r) (nI n) fr st vl ob lo hi kd rh a cur pt (d + 1) (gb_sum (fun j => a (r * 4 + j)) cur j) (nI j) := by
  intro d
  induction d with
  | zero =>
    intro j hj
    have e : j = n := by omega
    subst e
    exact br_t (nI_le (by omega) (by omega)) h
  | succ d ih =>
    intro j hj
    have i1 := gb_ix r j
    have i2 : (nI r * 4 + nI j).toNatClampNeg = r * 4 + j := by rw [i1]; exact nI_clamp (by omega)
    have i3 : vp_in (nI r * 4 + nI j) 32 := by rw [i1]; exact vp_in_nI (by omega) (by omega)
    have i4 : (nI j).toNatClampNeg = j := nI_clamp (by omega)
    have i5 : vp_in (nI j) 4 := vp_in_nI (by omega) (by omega)
    refine br_f (nI_ge (by omega) (by omega)) ⟨i3, i5, nm_r ?_ (nm_r (nI_1 j) (ih (j + 1) (by omega)))⟩
    rw [i2, i4]
    rfl
theorem gy_rs {post : Int32 → Prop} {r : Nat} (hn : n ≤ 4) (hr : r < 8) (h : post (gb_rs a n cur r)) : wpY_rowSum post (nI n, fr, st, vl, ob, lo, hi, kd, rh, a, cur, pt) (nI r) := by
  unfold wpY_rowSum
  exact ⟨n + 1, gy_rsL hn hr h n 0 (by omega)⟩
theorem gy_oaL {post : Int32 → Prop} (hn : n ≤ 4) (h : post (gb_sum ob cur n)) : ∀ d j, j + d = n → wY_objectiveAt_4 post (nI n) fr st vl ob lo hi kd rh a cur pt (d + 1) (gb_sum ob cur j) (nI j) := by
  intro d
  induction d with
  | zero =>
    intro j hj
    have e : j = n := by omega
    subst e
    exact br_t (nI_le (by omega) (by omega)) h
  | succ d ih =>
    intro j hj
    have i4 : (nI j).toNatClampNeg = j := nI_clamp (by omega)
    have i5 : vp_in (nI j) 4 := vp_in_nI (by omega) (by omega)
    refine br_f (nI_ge (by omega) (by omega)) ⟨i5, i5, nm_r ?_ (nm_r (nI_1 j) (ih (j + 1) (by omega)))⟩
    rw [i4]
    rfl
theorem gy_oa {post : Int32 → Prop} (hn : n ≤ 4) (h : post (gb_sum ob cur n)) : wpY_objectiveAt post (nI n, fr, st, vl, ob, lo, hi, kd, rh, a, cur, pt) := by
  unfold wpY_objectiveAt
  exact ⟨n + 1, gy_oaL hn h n 0 (by omega)⟩
theorem gy_60 {post J : Int32 → Prop} {r : Nat} {s fn : Int32} (hr : r < 8) (h1 : (kd r = 3 → s = rh r) → J (nI (r + 1))) (h0 : ¬ (kd r = 3 → s = rh r) → post 0) : wY_meetsRows_60 post J (nI r) s fn fr st vl ob lo hi kd rh a cur pt := by
  have i2 : (nI r).toNatClampNeg = r := nI_clamp (by omega)
  have i3 : vp_in (nI r) 8 := vp_in_nI hr (by omega)
  unfold wY_meetsRows_60
  rw [i2]
  refine ⟨i3, ?_⟩
  by_cases k : kd r = 3
  · by_cases e : s = rh r
    · exact br_t k ⟨i3, br_t e (nm_r (nI_1 r) (h1 fun _ => e))⟩
    · exact br_t k ⟨i3, br_f e (h0 fun z => e (z k))⟩
  · exact br_f k (nm_r (nI_1 r) (h1 fun z => absurd z k))
theorem gy_38 {post J : Int32 → Prop} {r : Nat} {s fn : Int32} (hr : r < 8) (h1 : (kd r = 2 → rh r ≤ s) → (kd r = 3 → s = rh r) → J (nI (r + 1))) (h0 : ¬ ((kd r = 2 → rh r ≤ s) ∧ (kd r = 3 → s = rh r)) → post 0) : wY_meetsRows_38 post J (nI r) s fn fr st vl ob lo hi kd rh a cur pt := by
  have i2 : (nI r).toNatClampNeg = r := nI_clamp (by omega)
  have i3 : vp_in (nI r) 8 := vp_in_nI hr (by omega)
  unfold wY_meetsRows_38
  rw [i2]
  refine ⟨i3, ?_⟩
  by_cases k : kd r = 2
  · by_cases e : rh r ≤ s
    · exact br_t k ⟨i3, br_t e (gy_60 hr (fun z => h1 (fun _ => e) z) (fun z => h0 fun w => z w.2))⟩
    · exact br_t k ⟨i3, br_f e (h0 fun w => e (w.1 k))⟩
  · exact br_f k (gy_60 hr (fun z => h1 (fun w => absurd w k) z) (fun z => h0 fun w => z w.2))
theorem gy_mrL {post : Int32 → Prop} (hn : n ≤ 4) (hR : R ≤ 8) (h1 : gb_rows kd rh a n R cur → post 1) (h0 : ¬ gb_rows kd rh a n R cur → post 0) : ∀ d r, r + d = R → (∀ i, i < r → gb_row kd rh a n cur i) → wY_meetsRows_2 post (nI n) (nI R) st vl ob lo hi kd rh a cur pt (d + 1) (nI r) := by
  intro d
  induction d with
  | zero =>
    intro r hr hb
    have e : r = R := by omega
    subst e
    exact br_t (nI_le (by omega) (by omega)) (h1 hb)
  | succ d ih =>
    intro r hr hb
    have hr8 : r < 8 := by omega
    have i2 : (nI r).toNatClampNeg = r := nI_clamp (by omega)
    have i3 : vp_in (nI r) 8 := vp_in_nI hr8 (by omega)
    have w0 : ¬ ((kd r = 2 → rh r ≤ gb_rs a n cur r) ∧ (kd r = 3 → gb_rs a n cur r = rh r)) → post 0 := fun z => h0 fun w => z (w r (by omega)).2
    refine br_f (nI_ge (by omega) (by omega)) (gy_rs hn hr8 ⟨i3, ?_⟩)
    rw [i2]
    by_cases k : kd r = 1
    · by_cases e : gb_rs a n cur r ≤ rh r
      · exact br_t k ⟨i3, br_t e (gy_38 hr8 (fun z2 z3 => ih (r + 1) (by omega) (lt_s hb ⟨fun _ => e, z2, z3⟩)) w0)⟩
      · exact br_t k ⟨i3, br_f e (h0 fun w => e ((w r (by omega)).1 k))⟩
    · exact br_f k (gy_38 hr8 (fun z2 z3 => ih (r + 1) (by omega) (lt_s hb ⟨fun w => absurd w k, z2, z3⟩)) w0)
theorem gy_mr {post : Int32 → Prop} (hn : n ≤ 4) (hR : R ≤ 8) (h1 : gb_rows kd rh a n R cur → post 1) (h0 : ¬ gb_rows kd rh a n R cur → post 0) : wpY_meetsRows post (nI n, nI R, st, vl, ob, lo, hi, kd, rh, a, cur, pt) := by
  unfold wpY_meetsRows
  exact ⟨R + 1, gy_mrL hn hR h1 h0 R 0 (by omega) (fun i hi' => absurd hi' (Nat.not_lt_zero i))⟩
end

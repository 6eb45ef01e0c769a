theorem i_vc_value {k : Nat} {u : SX} {v : SY} (I : i_Rel k u v) (hk : k + 4 ≤ 2049) : wpX_value (fun r => wpY_value (fun r' => r' = r ∧ i_Rel (k + 4) u v) v) u := by
  have J := i_up I
  obtain ⟨n, R, st, bv, bc, vl, ob, lo, hi, kd, rh, a, cur, pt, rfl, rfl, h1, hn, hR, hk', hs⟩ := I
  by_cases hst : st = 1
  · exact br_t hst (br_t hst ⟨(hs hst).1, J⟩)
  · exact br_f hst (br_f hst ⟨rfl, J⟩)
theorem i_vc_point {k : Nat} {u : SX} {v : SY} (I : i_Rel k u v) (hk : k + 4 ≤ 2049) (v1 : Int32) : wpX_point (fun r => wpY_point (fun r' => r' = r ∧ i_Rel (k + 4) u v) v v1) u v1 := by
  have J := i_up I
  obtain ⟨n, R, st, bv, bc, vl, ob, lo, hi, kd, rh, a, cur, pt, rfl, rfl, h1, hn, hR, hk', hs⟩ := I
  by_cases hst : st = 1
  · obtain ⟨hv, b, hb, rfl, hp⟩ := hs hst
    refine br_t hst (gx_isVar hn (fun j hj e => ?_) (fun h => ?_))
    · subst e
      have i2 : (nI j).toNatClampNeg = j := nI_clamp (by omega)
      have q : pt (nI j).toNatClampNeg = gb_x n b j := by rw [i2]; exact hp j hj
      exact br_f (by decide) (gx_co hn hb hj (br_t hst (gb_inl hj (by omega) ⟨vp_in_nI (by omega) (by omega), q, J⟩)))
    · exact br_t rfl (br_t hst (gb_outl h ⟨rfl, J⟩))
  · exact br_f hst (br_f hst ⟨rfl, J⟩)
theorem i_vc_getCoef {k : Nat} {u : SX} {v : SY} (I : i_Rel k u v) (hk : k + 4 ≤ 2049) (v1 : Int32) (v2 : Int32) : wpX_getCoef (fun r => wpY_getCoef (fun r' => r' = r ∧ i_Rel (k + 4) u v) v v1 v2) u v1 v2 := by
  have J := i_up I
  obtain ⟨n, R, st, bv, bc, vl, ob, lo, hi, kd, rh, a, cur, pt, rfl, rfl, h1, hn, hR, hk', hs⟩ := I
  unfold wpX_getCoef
  dsimp only
  refine gx_isRow hR (fun r hr e => ?_) (fun h => ?_)
  · subst e
    refine br_f (by decide) (gx_isVar hn (fun j hj e => ?_) (fun h => ?_))
    · subst e
      have w := gb_vi (r := r) (j := j) (by omega) (by omega)
      exact br_f (by decide) ⟨w, gb_ine hr (by omega) (gb_inl hj (by omega) ⟨w, rfl, J⟩)⟩
    · exact br_t rfl (gb_ine hr (by omega) (gb_outl h ⟨rfl, J⟩))
  · exact br_t rfl (gb_oute h ⟨rfl, J⟩)
theorem i_vc_getRhs {k : Nat} {u : SX} {v : SY} (I : i_Rel k u v) (hk : k + 4 ≤ 2049) (v1 : Int32) : wpX_getRhs (fun r => wpY_getRhs (fun r' => r' = r ∧ i_Rel (k + 4) u v) v v1) u v1 := by
  have J := i_up I
  obtain ⟨n, R, st, bv, bc, vl, ob, lo, hi, kd, rh, a, cur, pt, rfl, rfl, h1, hn, hR, hk', hs⟩ := I
  unfold wpX_getRhs
  dsimp only
  refine gx_isRow hR (fun j hj e => ?_) (fun h => ?_)
  · subst e
    exact br_f (by decide) ⟨vp_in_nI (by omega) (by omega), gb_inl hj (by omega) ⟨vp_in_nI (by omega) (by omega), rfl, J⟩⟩
  · exact br_t rfl (gb_outl h ⟨rfl, J⟩)
theorem i_vc_getKind {k : Nat} {u : SX} {v : SY} (I : i_Rel k u v) (hk : k + 4 ≤ 2049) (v1 : Int32) : wpX_getKind (fun r => wpY_getKind (fun r' => r' = r ∧ i_Rel (k + 4) u v) v v1) u v1 := by
  have J := i_up I
  obtain ⟨n, R, st, bv, bc, vl, ob, lo, hi, kd, rh, a, cur, pt, rfl, rfl, h1, hn, hR, hk', hs⟩ := I
  unfold wpX_getKind
  dsimp only
  refine gx_isRow hR (fun j hj e => ?_) (fun h => ?_)
  · subst e
    exact br_f (by decide) ⟨vp_in_nI (by omega) (by omega), gb_inl hj (by omega) ⟨vp_in_nI (by omega) (by omega), rfl, J⟩⟩
  · exact br_t rfl (gb_outl h ⟨rfl, J⟩)
theorem i_vc_getObjective {k : Nat} {u : SX} {v : SY} (I : i_Rel k u v) (hk : k + 4 ≤ 2049) (v1 : Int32) : wpX_getObjective (fun r => wpY_getObjective (fun r' => r' = r ∧ i_Rel (k + 4) u v) v v1) u v1 := by
  have J := i_up I
  obtain ⟨n, R, st, bv, bc, vl, ob, lo, hi, kd, rh, a, cur, pt, rfl, rfl, h1, hn, hR, hk', hs⟩ := I
  unfold wpX_getObjective
  dsimp only
  refine gx_isVar hn (fun j hj e => ?_) (fun h => ?_)
  · subst e
    exact br_f (by decide) ⟨vp_in_nI (by omega) (by omega), gb_inl hj (by omega) ⟨vp_in_nI (by omega) (by omega), rfl, J⟩⟩
  · exact br_t rfl (gb_outl h ⟨rfl, J⟩)
theorem i_vc_getBound {k : Nat} {u : SX} {v : SY} (I : i_Rel k u v) (hk : k + 4 ≤ 2049) (v1 : Int32) (v2 : Int32) : wpX_getBound (fun r => wpY_getBound (fun r' => r' = r ∧ i_Rel (k + 4) u v) v v1 v2) u v1 v2 := by
  have J := i_up I
  obtain ⟨n, R, st, bv, bc, vl, ob, lo, hi, kd, rh, a, cur, pt, rfl, rfl, h1, hn, hR, hk', hs⟩ := I
  unfold wpX_getBound
  dsimp only
  refine gx_isVar hn (fun j hj e => ?_) (fun h => ?_)
  · subst e
    have w : vp_in (nI j) 4 := vp_in_nI (by omega) (by omega)
    by_cases b0 : v2 = 0
    · exact br_f (by decide) (br_t b0 ⟨w, gb_inl hj (by omega) (br_t b0 ⟨w, rfl, J⟩)⟩)
    · by_cases b1 : v2 = 1
      · exact br_f (by decide) (br_f b0 (br_t b1 ⟨w, gb_inl hj (by omega) (br_f b0 (br_t b1 ⟨w, rfl, J⟩))⟩))
      · exact br_f (by decide) (br_f b0 (br_f b1 (gb_inl hj (by omega) (br_f b0 (br_f b1 ⟨rfl, J⟩)))))
  · exact br_t rfl (gb_outl h ⟨rfl, J⟩)
theorem i_vc_solve {k : Nat} {u : SX} {v : SY} (I : i_Rel k u v) (hk : k + 4 ≤ 2049) : wpX_solve (fun r u' => wpY_solve (fun r' v' => r' = r ∧ i_Rel (k + 4) u' v') v) u := by
  have J := i_up I
  obtain ⟨n, R, st, bv, bc, vl, ob, lo, hi, kd, rh, a, cur, pt, rfl, rfl, h1, hn, hR, hk', hs⟩ := I
  refine gx_solve hn hR hk' ?_
  refine gy_solve (M := 4096) rfl hn hR (fun cur' pt' hp => ?_)
  have e := gb_FF (lo := lo) (hi := hi) (kd := kd) (rh := rh) (a := a) (ob := ob) (R := R) h1 hn
  rw [e] at hp ⊢
  cases ho : gb_F (gb_P lo hi kd rh a n R) (gb_V ob n) (8 ^ n) with
  | none => exact ⟨rfl, n, R, 2, 0, 0, 0, ob, lo, hi, kd, rh, a, cur', pt', rfl, rfl, h1, hn, hR, hk', fun z => absurd z (by decide)⟩
  | some b =>
    rw [ho] at hp
    have hb := gb_Flt ho
    have h4 := gb_c4 n (by omega)
    refine ⟨rfl, n, R, 1, gb_V ob n b, nI b, gb_U ob n (b * 8 ^ (4 - n)), ob, lo, hi, kd, rh, a, cur', pt', rfl, rfl, h1, hn, hR, hk', fun _ => ⟨gb_UV hn b, b, by omega, rfl, fun j hj => ?_⟩⟩
    exact (hp (b * 8 ^ (4 - n)) rfl j (by omega)).trans (gb_yx hn hj)

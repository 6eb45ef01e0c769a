theorem i_vc0 (k0 : Int32) : wpX_init (fun u => wpY_init (fun v => i_Rel 1 u v) k0) k0 := by
  have e1 : (1 : Int32) = nI 1 := rfl
  have e4 : (4 : Int32) = nI 4 := rfl
  have M : ∀ n, 1 ≤ n → n ≤ 4 → i_Rel 1 (nI n, 0, 0, 0, 0, (fun _ => 0), (fun _ => 0), gb_fill (fun _ => 0) 0 7 4, (fun _ => 0), (fun _ => 0), (fun _ => 0)) (nI n, 0, 0, 0, (fun _ => 0), (fun _ => 0), gb_fill (fun _ => 0) 0 7 4, (fun _ => 0), (fun _ => 0), (fun _ => 0), (fun _ => 0), (fun _ => 0)) :=
    fun n h1 hn => gr_mk (R := 0) h1 hn (by omega) (fun r hr => absurd hr (Nat.not_lt_zero r))
  by_cases a1 : 1 ≤ k0
  · by_cases a4 : k0 ≤ 4
    · have hp : ¬ k0 < 0 := Int32.not_lt.mpr (Int32.le_trans (by decide) a1)
      obtain ⟨n, hn, e⟩ := nI_of2 (M := 4) (n := 4) (by decide) hp a4
      have h1 : 1 ≤ n := by
        rw [e, e1] at a1
        exact (nI_leI (by omega) (by omega)).mp a1
      have W := M n h1 hn
      rw [← e] at W
      exact br_t a1 (br_t a4 (gx_ini (br_t a1 (br_t a4 (gy_ini W)))))
    · exact br_t a1 (br_f a4 (gx_ini (br_t a1 (br_f a4 (gy_ini (M 4 (by omega) (by omega)))))))
  · exact br_f a1 (gx_ini (br_f a1 (br_t (by decide) (gy_ini (M 1 (by omega) (by omega))))))
theorem i_vc_numVars {k : Nat} {u : SX} {v : SY} (I : i_Rel k u v) (hk : k + 4 ≤ 2049) : wpX_numVars (fun r => wpY_numVars (fun r' => r' = r ∧ i_Rel (k + 4) u v) v) u := by
  have J := i_up I
  obtain ⟨n, R, st, bv, bc, vl, ob, lo, hi, kd, rh, a, cur, pt, rfl, rfl, h1, hn, hR, hk', hs⟩ := I
  exact ⟨rfl, J⟩
theorem i_vc_numRows {k : Nat} {u : SX} {v : SY} (I : i_Rel k u v) (hk : k + 4 ≤ 2049) : wpX_numRows (fun r => wpY_numRows (fun r' => r' = r ∧ i_Rel (k + 4) u v) v) u := by
  have J := i_up I
  obtain ⟨n, R, st, bv, bc, vl, ob, lo, hi, kd, rh, a, cur, pt, rfl, rfl, h1, hn, hR, hk', hs⟩ := I
  exact ⟨rfl, J⟩
theorem i_vc_setObjective {k : Nat} {u : SX} {v : SY} (I : i_Rel k u v) (hk : k + 4 ≤ 2049) (v1 : Int32) (v2 : Int32) : wpX_setObjective (fun r u' => wpY_setObjective (fun r' v' => r' = r ∧ i_Rel (k + 4) u' v') v v1 v2) u v1 v2 := by
  have J := i_up I
  obtain ⟨n, R, st, bv, bc, vl, ob, lo, hi, kd, rh, a, cur, pt, rfl, rfl, h1, hn, hR, hk', hs⟩ := I
  unfold wpX_setObjective
  dsimp only
  refine gx_isVar hn (fun j hj e => ?_) (fun h => ?_)
  · subst e
    have w : vp_in (nI j) 4 := vp_in_nI (by omega) (by omega)
    refine br_f (by decide) (gx_isCoef (fun c1 c2 => ?_) (fun c => ?_))
    · exact br_f (by decide) ⟨w, nm_e (gb_ine hj (by omega) (br_f c1 (br_t (Int32.not_lt.mp c2) ⟨w, nm_e ⟨rfl, gr_mk h1 hn hR hk'⟩⟩)))⟩
    · exact br_t rfl (gb_ine hj (by omega) (gb_co c ⟨rfl, J⟩))
  · exact br_t rfl (gb_oute h ⟨rfl, J⟩)
theorem i_vc_setBounds {k : Nat} {u : SX} {v : SY} (I : i_Rel k u v) (hk : k + 4 ≤ 2049) (v1 : Int32) (v2 : Int32) (v3 : Int32) : wpX_setBounds (fun r u' => wpY_setBounds (fun r' v' => r' = r ∧ i_Rel (k + 4) u' v') v v1 v2 v3) u v1 v2 v3 := by
  have J := i_up I
  obtain ⟨n, R, st, bv, bc, vl, ob, lo, hi, kd, rh, a, cur, pt, rfl, rfl, h1, hn, hR, hk', hs⟩ := I
  unfold wpX_setBounds
  dsimp only
  refine gx_isVar hn (fun j hj e => ?_) (fun h => ?_)
  · subst e
    have w : vp_in (nI j) 4 := vp_in_nI (by omega) (by omega)
    by_cases b1 : v2 < 0
    · exact br_f (by decide) (br_t b1 (gb_inl hj (by omega) (br_t b1 ⟨rfl, J⟩)))
    · by_cases b2 : v3 < v2
      · exact br_f (by decide) (br_f b1 (br_t b2 (gb_inl hj (by omega) (br_f b1 (br_t b2 ⟨rfl, J⟩)))))
      · by_cases b3 : v3 ≤ 7
        · exact br_f (by decide) (br_f b1 (br_f b2 (br_t b3 ⟨w, nm_e ⟨w, nm_e (gb_inl hj (by omega) (br_f b1 (br_f b2 (br_t b3 ⟨w, nm_e ⟨w, nm_e ⟨rfl, gr_mk h1 hn hR hk'⟩⟩⟩))))⟩⟩)))
        · exact br_f (by decide) (br_f b1 (br_f b2 (br_f b3 (gb_inl hj (by omega) (br_f b1 (br_f b2 (br_f b3 ⟨rfl, J⟩)))))))
  · exact br_t rfl (gb_outl h ⟨rfl, J⟩)
theorem i_vc_addRow {k : Nat} {u : SX} {v : SY} (I : i_Rel k u v) (hk : k + 4 ≤ 2049) (v1 : Int32) (v2 : Int32) : wpX_addRow (fun r u' => wpY_addRow (fun r' v' => r' = r ∧ i_Rel (k + 4) u' v') v v1 v2) u v1 v2 := by
  have J := i_up I
  obtain ⟨n, R, st, bv, bc, vl, ob, lo, hi, kd, rh, a, cur, pt, rfl, rfl, h1, hn, hR, hk', hs⟩ := I
  by_cases h8 : R < 8
  · have x8 : ¬ (8 : Int32) ≤ nI R := nI_ge (b := 8) h8 (by decide)
    have y8 : nI R < (8 : Int32) := nI_lt (b := 8) h8 (by decide)
    have i2 : (nI R).toNatClampNeg = R := nI_clamp (by omega)
    have w : vp_in (nI R) 8 := vp_in_nI h8 (by omega)
    have ek : upd kd (nI R).toNatClampNeg v1 = upd kd R v1 := by rw [i2]
    have er : upd rh (nI R).toNatClampNeg v2 = upd rh R v2 := by rw [i2]
    refine br_f x8 (gx_isKind (fun kk => ?_) (fun kk => ?_))
    · have hk2 : ∀ r, r < R + 1 → upd kd R v1 r = 1 ∨ upd kd R v1 r = 2 ∨ upd kd R v1 r = 3 := by
        intro r hr
        by_cases q : r = R
        · rw [q, pk_us]
          exact kk
        · rw [pk_un q]
          exact hk' r (by omega)
      by_cases b1 : v2 < -99
      · exact br_f (by decide) (br_t b1 (br_t y8 (gb_ky kk (br_t b1 ⟨rfl, J⟩))))
      · by_cases b2 : v2 ≤ 99
        · exact br_f (by decide) (br_f b1 (br_t b2 ⟨w, nm_r ek ⟨w, nm_r er (gx_cl h8 (nm_r (nI_1 R) (br_t y8 (gb_ky kk (br_f b1 (br_t b2 ⟨w, nm_r ek ⟨w, nm_r er (gy_cl h8 ⟨rfl, gr_mk h1 hn (by omega) hk2⟩)⟩⟩))))))⟩⟩))
        · exact br_f (by decide) (br_f b1 (br_f b2 (br_t y8 (gb_ky kk (br_f b1 (br_f b2 ⟨rfl, J⟩))))))
    · exact br_t rfl (br_t y8 (gb_kn kk ⟨rfl, J⟩))
  · have x8 : (8 : Int32) ≤ nI R := nI_le (a := 8) (by omega) (by omega)
    have y8 : ¬ nI R < (8 : Int32) := nI_nlt (b := 8) (by omega) (by omega)
    exact br_t x8 (br_f y8 ⟨rfl, J⟩)
theorem i_vc_setCoef {k : Nat} {u : SX} {v : SY} (I : i_Rel k u v) (hk : k + 4 ≤ 2049) (v1 : Int32) (v2 : Int32) (v3 : Int32) : wpX_setCoef (fun r u' => wpY_setCoef (fun r' v' => r' = r ∧ i_Rel (k + 4) u' v') v v1 v2 v3) u v1 v2 v3 := by
  have J := i_up I
  obtain ⟨n, R, st, bv, bc, vl, ob, lo, hi, kd, rh, a, cur, pt, rfl, rfl, h1, hn, hR, hk', hs⟩ := I
  unfold wpX_setCoef
  dsimp only
  refine gx_isRow hR (fun r hr e => ?_) (fun h => ?_)
  · subst e
    refine br_f (by decide) (gx_isVar hn (fun j hj e => ?_) (fun h => ?_))
    · subst e
      have w := gb_vi (r := r) (j := j) (by omega) (by omega)
      refine br_f (by decide) (gx_isCoef (fun c1 c2 => ?_) (fun c => ?_))
      · exact br_f (by decide) ⟨w, nm_e (gb_ine hr (by omega) (gb_ine hj (by omega) (br_f c1 (br_t (Int32.not_lt.mp c2) ⟨w, nm_e ⟨rfl, gr_mk h1 hn hR hk'⟩⟩))))⟩
      · exact br_t rfl (gb_ine hr (by omega) (gb_ine hj (by omega) (gb_co c ⟨rfl, J⟩)))
    · exact br_t rfl (gb_ine hr (by omega) (gb_oute h ⟨rfl, J⟩))
  · exact br_t rfl (gb_oute h ⟨rfl, J⟩)
theorem i_vc_removeLastRow {k : Nat} {u : SX} {v : SY} (I : i_Rel k u v) (hk : k + 4 ≤ 2049) : wpX_removeLastRow (fun r u' => wpY_removeLastRow (fun r' v' => r' = r ∧ i_Rel (k + 4) u' v') v) u := by
  have J := i_up I
  obtain ⟨n, R, st, bv, bc, vl, ob, lo, hi, kd, rh, a, cur, pt, rfl, rfl, h1, hn, hR, hk', hs⟩ := I
  cases R with
  | zero => exact br_f (show ¬ (0 : Int32) < 0 by decide) (br_t rfl ⟨rfl, J⟩)
  | succ R =>
    have p0 : (0 : Int32) < nI (R + 1) := nI_lt (a := 0) (by omega) (by omega)
    have p1 : ¬ nI (R + 1) = 0 := nI_ne0 (by omega) (by omega)
    exact br_t p0 (nm_r (nI_pred R) (br_f p1 (nm_r (nI_pred R) ⟨rfl, gr_mk h1 hn (by omega) (fun r hr => hk' r (by omega))⟩)))

/-! Y: solve -/
section
variable {n R k : Nat} {fr st vl : Int32} {ob lo hi kd rh a cur pt : Nat → Int32}
theorem gy_cp {post : Int32 → SY → Prop} {J : Int32 → Int32 → Int32 → (Nat → Int32) → (Nat → Int32) → (Nat → Int32) → (Nat → Int32) → (Nat → Int32) → (Nat → Int32) → (Nat → Int32) → (Nat → Int32) → Prop} {x1 x2 fn : Int32} (h : ∀ pt', (∀ i, i < 4 → pt' i = cur i) → J x1 x2 (nI (k + 1)) ob lo hi kd rh a cur pt') : ∀ d j, j + d = 4 → ∀ pt, (∀ i, i < j → pt i = cur i) → wY_solve_142 post J x1 x2 (nI k) fn fr st vl (d + 1) (nI j) ob lo hi kd rh a cur pt := by
  intro d
  induction d with
  | zero =>
    intro j hj pt hb
    have e : j = 4 := by omega
    subst e
    exact br_t (nI_le (a := 4) (by omega) (by omega)) (nm_r (nI_1 k) (h pt hb))
  | succ d ih =>
    intro j hj pt hb
    have i2 : (nI j).toNatClampNeg = j := nI_clamp (by omega)
    have i3 : vp_in (nI j) 4 := vp_in_nI (by omega) (by omega)
    have e : upd pt (nI j).toNatClampNeg (cur (nI j).toNatClampNeg) = upd pt j (cur j) := by rw [i2]
    have hb' : ∀ i, i < j + 1 → upd pt j (cur j) i = cur i := by
      intro i hi'
      by_cases q : i = j
      · rw [q, pk_us]
      · rw [pk_un q]
        exact hb i (by omega)
    exact br_f (nI_ge (b := 4) (by omega) (by omega)) ⟨i3, i3, nm_r e (nm_r (nI_1 j) (ih (j + 1) (by omega) _ hb'))⟩
theorem gy_z {post : Int32 → SY → Prop} {fn fs : Int32} (h : ∀ pt', post fs (fn, fr, fs, vl, ob, lo, hi, kd, rh, a, cur, pt')) : ∀ d j, j + d = 4 → ∀ pt, wY_solve_190 post fn fr fs vl (d + 1) (nI j) ob lo hi kd rh a cur pt := by
  intro d
  induction d with
  | zero =>
    intro j hj pt
    have e : j = 4 := by omega
    subst e
    exact br_t (nI_le (a := 4) (by omega) (by omega)) (h pt)
  | succ d ih =>
    intro j hj pt
    exact br_f (nI_ge (b := 4) (by omega) (by omega)) ⟨vp_in_nI (by omega) (by omega), nm_e (nm_r (nI_1 j) (ih (j + 1) (by omega) _))⟩
theorem gy_55 {post : Int32 → SY → Prop} {J6 : Int32 → Int32 → Int32 → (Nat → Int32) → (Nat → Int32) → (Nat → Int32) → (Nat → Int32) → (Nat → Int32) → (Nat → Int32) → (Nat → Int32) → (Nat → Int32) → Prop} {J19 : Int32 → Int32 → (Nat → Int32) → (Nat → Int32) → (Nat → Int32) → (Nat → Int32) → (Nat → Int32) → (Nat → Int32) → (Nat → Int32) → (Nat → Int32) → Prop} {x1 x2 x3 x4 D : Int32} {j : Nat} (hn : n ≤ 4) (hj : j < 4)
    (ha : (j < n → ¬ D < lo j ∧ ¬ hi j < D) → J19 x4 (nI (j + 1)) ob lo hi kd rh a (upd cur j D) pt) (hb : ¬ (j < n → ¬ D < lo j ∧ ¬ hi j < D) → J19 0 (nI (j + 1)) ob lo hi kd rh a (upd cur j D) pt) :
    wY_solve_55 post J6 J19 x1 x2 x3 x4 (nI j) D (nI n) fr st vl ob lo hi kd rh a cur pt := by
  have i2 : (nI j).toNatClampNeg = j := nI_clamp (by omega)
  have i3 : vp_in (nI j) 4 := vp_in_nI (by omega) (by omega)
  have e : upd cur (nI j).toNatClampNeg D = upd cur j D := by rw [i2]
  unfold wY_solve_55
  by_cases h : n ≤ j
  · exact br_t (nI_le h (by omega)) ⟨i3, nm_r e (nm_r (nI_1 j) (ha fun z => absurd z (by omega)))⟩
  · have hjn : j < n := by omega
    refine br_f (nI_ge hjn (by omega)) ⟨i3, ?_⟩
    rw [i2]
    by_cases q1 : D < lo j
    · exact br_t q1 ⟨i3, nm_r e (nm_r (nI_1 j) (hb fun z => (z hjn).1 q1))⟩
    · by_cases q2 : hi j < D
      · exact br_f q1 ⟨i3, br_f (Int32.not_le.mpr q2) ⟨i3, nm_r e (nm_r (nI_1 j) (hb fun z => (z hjn).2 q2))⟩⟩
      · exact br_f q1 ⟨i3, br_t (Int32.not_lt.mp q2) ⟨i3, nm_e (nm_r (nI_1 j) (ha fun _ => ⟨q1, q2⟩))⟩⟩
theorem gy_after {post : Int32 → SY → Prop} {J : Int32 → Int32 → Int32 → (Nat → Int32) → (Nat → Int32) → (Nat → Int32) → (Nat → Int32) → (Nat → Int32) → (Nat → Int32) → (Nat → Int32) → (Nat → Int32) → Prop} {o o' : Option Nat} {m : Nat} {x4 : Int32} (hn : n ≤ 4) (hR : R ≤ 8)
    (hy : gb_Q lo hi kd rh a n R k → o' = gb_up (gb_U ob n) o k) (hq : ¬ gb_Q lo hi kd rh a n R k → o' = o)
    (H : ∀ cur' pt', gb_pt o' pt' → J (gb_fd o') (gb_bv (gb_U ob n) o') (nI (k + 1)) ob lo hi kd rh a cur' pt')
    (hpt : gb_pt o pt) (hf : gb_fl x4 (gb_ks lo hi n (gb_y k) 4)) (hcur : ∀ i, i < 4 → cur i = gb_y k i) :
    wY_solve_19 post J (gb_fd o) (gb_bv (gb_U ob n) o) (nI k) (nI n) (nI R) st vl (m + 1) x4 (nI 4) ob lo hi kd rh a cur pt := by
  have h4 : (4 : Int32) ≤ nI 4 := nI_le (a := 4) (by omega) (by omega)
  have hcn : ∀ i, i < n → cur i = gb_y k i := fun i hi' => hcur i (by omega)
  have ev : gb_sum ob cur n = gb_U ob n k := gb_sumC hcn
  have hrw : gb_rows kd rh a n R cur ↔ gb_rows kd rh a n R (gb_y k) := gb_rowsC hcn
  rcases hf with ⟨rfl, hk⟩ | ⟨rfl, hk⟩
  · refine br_t h4 (br_f (by decide) (gy_mr hn hR (fun zr => ?_) (fun zr => ?_)))
    · have e := hy ⟨hk, hrw.mp zr⟩
      subst e
      refine br_f (by decide) (gy_oa hn ?_)
      rw [ev]
      cases o with
      | none => exact br_t rfl ⟨4 + 1, gy_cp (fun pt' hp => H cur pt' (gb_ptk hp hcur)) 4 0 (by omega) pt (fun i hi' => absurd hi' (Nat.not_lt_zero i))⟩
      | some b =>
        by_cases hv : gb_U ob n b < gb_U ob n k
        · have e2 : gb_up (gb_U ob n) (some b) k = some k := if_pos hv
          rw [e2] at H
          exact br_f (show ¬ (1 : Int32) = 0 by decide) (br_f (Int32.not_le.mpr hv) ⟨4 + 1, gy_cp (fun pt' hp => H cur pt' (gb_ptk hp hcur)) 4 0 (by omega) pt (fun i hi' => absurd hi' (Nat.not_lt_zero i))⟩)
        · have e2 : gb_up (gb_U ob n) (some b) k = some b := if_neg hv
          rw [e2] at H
          exact br_f (show ¬ (1 : Int32) = 0 by decide) (br_t (Int32.not_lt.mp hv) (nm_r (nI_1 k) (H cur pt hpt)))
    · have e := hq (fun z => zr (hrw.mpr z.2))
      subst e
      exact br_t rfl (nm_r (nI_1 k) (H cur pt hpt))
  · have e := hq (fun z => hk z.1)
    subst e
    exact br_t h4 (br_t rfl (nm_r (nI_1 k) (H cur pt hpt)))
theorem gy_in {post : Int32 → SY → Prop} {J : Int32 → Int32 → Int32 → (Nat → Int32) → (Nat → Int32) → (Nat → Int32) → (Nat → Int32) → (Nat → Int32) → (Nat → Int32) → (Nat → Int32) → (Nat → Int32) → Prop} {o o' : Option Nat} (hn : n ≤ 4) (hR : R ≤ 8) (hk4 : k < 4096)
    (hy : gb_Q lo hi kd rh a n R k → o' = gb_up (gb_U ob n) o k) (hq : ¬ gb_Q lo hi kd rh a n R k → o' = o)
    (H : ∀ cur' pt', gb_pt o' pt' → J (gb_fd o') (gb_bv (gb_U ob n) o') (nI (k + 1)) ob lo hi kd rh a cur' pt')
    (hpt : gb_pt o pt) : ∀ d j, j + d = 4 → ∀ x4 cur, gb_fl x4 (gb_ks lo hi n (gb_y k) j) → (∀ i, i < j → cur i = gb_y k i) →
    wY_solve_19 post J (gb_fd o) (gb_bv (gb_U ob n) o) (nI k) (nI n) (nI R) st vl (d + 1) x4 (nI j) ob lo hi kd rh a cur pt := by
  intro d
  induction d with
  | zero =>
    intro j hj x4 cur hf hcur
    have e : j = 4 := by omega
    subst e
    exact gy_after hn hR hy hq H hpt hf hcur
  | succ d ih =>
    intro j hj x4 cur hf hcur
    have hj4 : j < 4 := by omega
    have hc' : ∀ i, i < j + 1 → upd cur j (gb_y k j) i = gb_y k i := by
      intro i hi'
      by_cases q : i = j
      · rw [q, pk_us]
      · rw [pk_un q]
        exact hcur i (by omega)
    have K : ∀ y4, gb_fl y4 (gb_ks lo hi n (gb_y k) (j + 1)) → wY_solve_19 post J (gb_fd o) (gb_bv (gb_U ob n) o) (nI k) (nI n) (nI R) st vl (d + 1) y4 (nI (j + 1)) ob lo hi kd rh a (upd cur j (gb_y k j)) pt := fun y4 hy4 => ih (j + 1) (by omega) y4 _ hy4 hc'
    refine br_f (nI_ge (b := 4) (by omega) (by omega)) (nm_r (gb_digY (by omega) hj4) ?_)
    by_cases hjn : j < n
    · exact br_t (nI_lt hjn (by omega)) (gy_55 hn hj4 (fun z => K x4 (gb_fls hf ⟨fun h => absurd h (by omega), z⟩)) (fun z => K 0 (gb_fl0 fun w => z w.2)))
    · have hjn' : n ≤ j := by omega
      by_cases hD : gb_y k j = 0
      · exact br_f (nI_nlt hjn' (by omega)) (br_t hD (gy_55 hn hj4 (fun z => K x4 (gb_fls hf ⟨fun _ => hD, z⟩)) (fun z => K 0 (gb_fl0 fun w => z w.2))))
      · have hz : ¬ gb_k1 lo hi n (gb_y k) j := fun w => hD (w.1 hjn')
        exact br_f (nI_nlt hjn' (by omega)) (br_f hD (gy_55 hn hj4 (fun _ => K 0 (gb_fl0 hz)) (fun _ => K 0 (gb_fl0 hz))))
theorem gy_exit {post : Int32 → SY → Prop} {o : Option Nat} {U : Nat → Int32} {m : Nat} {fn : Int32} (hp : ∀ cur' pt', gb_pt o pt' → post (gb_st o) (fn, fr, gb_st o, gb_bv U o, ob, lo, hi, kd, rh, a, cur', pt')) (hpt : gb_pt o pt) : wY_solve_6 post fn fr st vl (m + 1) (gb_fd o) (gb_bv U o) (nI 4096) ob lo hi kd rh a cur pt := by
  have h4 : (4096 : Int32) ≤ nI 4096 := nI_le (a := 4096) (Nat.le_refl _) (by decide)
  cases o with
  | none => exact br_t h4 (br_t rfl ⟨4 + 1, gy_z (fun pt' => hp cur pt' (fun b hb => nomatch hb)) 4 0 (by omega) pt⟩)
  | some b => exact br_t h4 (br_f (show ¬ (1 : Int32) = 0 by decide) (hp cur pt hpt))
theorem gy_solveL {post : Int32 → SY → Prop} {M : Nat} (hM : M = 4096) (hn : n ≤ 4) (hR : R ≤ 8)
    (hp : ∀ cur' pt', gb_pt (gb_F (gb_Q lo hi kd rh a n R) (gb_U ob n) M) pt' → post (gb_st (gb_F (gb_Q lo hi kd rh a n R) (gb_U ob n) M)) (nI n, nI R, gb_st (gb_F (gb_Q lo hi kd rh a n R) (gb_U ob n) M), gb_bv (gb_U ob n) (gb_F (gb_Q lo hi kd rh a n R) (gb_U ob n) M), ob, lo, hi, kd, rh, a, cur', pt')) :
    ∀ d k, k + d = M → ∀ cur pt, gb_pt (gb_F (gb_Q lo hi kd rh a n R) (gb_U ob n) k) pt → wY_solve_6 post (nI n) (nI R) st vl (d + 1) (gb_fd (gb_F (gb_Q lo hi kd rh a n R) (gb_U ob n) k)) (gb_bv (gb_U ob n) (gb_F (gb_Q lo hi kd rh a n R) (gb_U ob n) k)) (nI k) ob lo hi kd rh a cur pt := by
  intro d
  induction d with
  | zero =>
    intro k hk cur pt hpt
    have e : M = k := by omega
    subst e
    have e2 : nI M = nI 4096 := congrArg nI hM
    rw [e2]
    exact gy_exit hp hpt
  | succ d ih =>
    intro k hk cur pt hpt
    have h4 : ¬ (4096 : Int32) ≤ nI k := nI_ge (b := 4096) (by omega) (by decide)
    exact br_f h4 ⟨4 + 1, gy_in (o' := gb_F (gb_Q lo hi kd rh a n R) (gb_U ob n) (k + 1)) hn hR (by omega) (fun z => gb_Fy z) (fun z => gb_Fn z) (fun cur' pt' hp' => ih (k + 1) (by omega) cur' pt' hp') hpt 4 0 (by omega) 1 cur (Or.inl ⟨rfl, fun i hi' => absurd hi' (Nat.not_lt_zero i)⟩) (fun i hi' => absurd hi' (Nat.not_lt_zero i))⟩
theorem gy_solve {post : Int32 → SY → Prop} {M : Nat} (hM : M = 4096) (hn : n ≤ 4) (hR : R ≤ 8)
    (hp : ∀ cur' pt', gb_pt (gb_F (gb_Q lo hi kd rh a n R) (gb_U ob n) M) pt' → post (gb_st (gb_F (gb_Q lo hi kd rh a n R) (gb_U ob n) M)) (nI n, nI R, gb_st (gb_F (gb_Q lo hi kd rh a n R) (gb_U ob n) M), gb_bv (gb_U ob n) (gb_F (gb_Q lo hi kd rh a n R) (gb_U ob n) M), ob, lo, hi, kd, rh, a, cur', pt')) :
    wpY_solve post (nI n, nI R, st, vl, ob, lo, hi, kd, rh, a, cur, pt) := by
  unfold wpY_solve
  exact ⟨M + 1, gy_solveL hM hn hR hp M 0 (Nat.zero_add _) cur pt (fun b hb => nomatch (show (none : Option Nat) = some b from hb))⟩
theorem gy_iniL {post : SY → Prop} {fn : Int32} (h : post (fn, fr, 0, vl, ob, lo, gb_fill hi 0 7 4, kd, rh, a, cur, pt)) : ∀ d j, j + d = 4 → wY_init_86 post fn fr st vl (d + 1) (nI j) ob lo (gb_fill hi 0 7 j) kd rh a cur pt := by
  intro d
  induction d with
  | zero =>
    intro j hj
    have e : j = 4 := by omega
    subst e
    exact br_t (nI_le (a := 4) (by omega) (by omega)) h
  | succ d ih =>
    intro j hj
    have i2 : (nI j).toNatClampNeg = j := nI_clamp (by omega)
    have e : upd (gb_fill hi 0 7 j) (nI j).toNatClampNeg 7 = gb_fill hi 0 7 (j + 1) := by
      rw [i2]
      show upd _ j 7 = upd _ (0 + j) 7
      rw [Nat.zero_add]
    exact br_f (nI_ge (b := 4) (by omega) (by omega)) ⟨vp_in_nI (by omega) (by omega), nm_r e (nm_r (nI_1 j) (ih (j + 1) (by omega)))⟩
theorem gy_ini {post : SY → Prop} {fn : Int32} (h : post (fn, fr, 0, vl, ob, lo, gb_fill hi 0 7 4, kd, rh, a, cur, pt)) : ∃ m, wY_init_86 post fn fr st vl m 0 ob lo hi kd rh a cur pt :=
  ⟨4 + 1, gy_iniL h 4 0 (by omega)⟩
theorem gy_clL {post : Int32 → SY → Prop} {fn : Int32} {r : Nat} (hr : r < 8) (h : post (nI r) (fn, nI (r + 1), 0, vl, ob, lo, hi, kd, rh, gb_fill a (r * 4) 0 4, cur, pt)) : ∀ d j, j + d = 4 → wY_addRow_64 post (nI r) fn (nI r) st vl (d + 1) (nI j) ob lo hi kd rh (gb_fill a (r * 4) 0 j) cur pt := by
  intro d
  induction d with
  | zero =>
    intro j hj
    have e : j = 4 := by omega
    subst e
    exact br_t (nI_le (a := 4) (by omega) (by omega)) (nm_r (nI_1 r) h)
  | succ d ih =>
    intro j hj
    have i1 := gb_ix r j
    have i2 : (nI r * 4 + nI j).toNatClampNeg = r * 4 + j := by rw [i1]; exact nI_clamp (by omega)
    have i3 : vp_in (nI r * 4 + nI j) 32 := by rw [i1]; exact vp_in_nI (by omega) (by omega)
    have e : upd (gb_fill a (r * 4) 0 j) (nI r * 4 + nI j).toNatClampNeg 0 = gb_fill a (r * 4) 0 (j + 1) := by
      rw [i2]
      rfl
    exact br_f (nI_ge (b := 4) (by omega) (by omega)) ⟨i3, nm_r e (nm_r (nI_1 j) (ih (j + 1) (by omega)))⟩
theorem gy_cl {post : Int32 → SY → Prop} {fn : Int32} {r : Nat} (hr : r < 8) (h : post (nI r) (fn, nI (r + 1), 0, vl, ob, lo, hi, kd, rh, gb_fill a (r * 4) 0 4, cur, pt)) : ∃ m, wY_addRow_64 post (nI r) fn (nI r) st vl m 0 ob lo hi kd rh a cur pt :=
  ⟨4 + 1, gy_clL hr h 4 0 (by omega)⟩
end

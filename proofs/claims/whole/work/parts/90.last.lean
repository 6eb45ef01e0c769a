theorem i_vc_status {k : Nat} {u : SX} {v : SY} (I : i_Rel k u v) (hk : k + 4 ≤ 2049) : wpX_status (fun r => wpY_status (fun r' => r' = r ∧ i_Rel (k + 4) u v) v) u := by
  have J := i_up I
  obtain ⟨n, R, st, bv, bc, vl, ob, lo, hi, kd, rh, a, cur, pt, rfl, rfl, h1, hn, hR, hk', hs⟩ := I
  exact ⟨rfl, J⟩

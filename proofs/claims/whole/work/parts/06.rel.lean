/-! the relation: the program's data the same on both sides; a solved state holds one best point -/
def i_Rel (k : Nat) (u : SX) (v : SY) : Prop :=
  ∃ (n R : Nat) (st bv bc vl : Int32) (ob lo hi kd rh a cur pt : Nat → Int32),
    u = (nI n, nI R, st, bv, bc, ob, lo, hi, kd, rh, a) ∧ v = (nI n, nI R, st, vl, ob, lo, hi, kd, rh, a, cur, pt) ∧
    1 ≤ n ∧ n ≤ 4 ∧ R ≤ 8 ∧ (∀ r, r < R → kd r = 1 ∨ kd r = 2 ∨ kd r = 3) ∧
    (st = 1 → vl = bv ∧ ∃ b : Nat, b < 4096 ∧ bc = nI b ∧ ∀ j, j < n → pt j = gb_x n b j)
theorem i_up {k : Nat} {u : SX} {v : SY} (h : i_Rel k u v) : i_Rel (k + 4) u v := h
theorem gr_mk {k n R : Nat} {bv bc vl : Int32} {ob lo hi kd rh a cur pt : Nat → Int32} (h1 : 1 ≤ n) (hn : n ≤ 4) (hR : R ≤ 8) (hk : ∀ r, r < R → kd r = 1 ∨ kd r = 2 ∨ kd r = 3) : i_Rel k (nI n, nI R, 0, bv, bc, ob, lo, hi, kd, rh, a) (nI n, nI R, 0, vl, ob, lo, hi, kd, rh, a, cur, pt) :=
  ⟨n, R, 0, bv, bc, vl, ob, lo, hi, kd, rh, a, cur, pt, rfl, rfl, h1, hn, hR, hk, fun z => absurd z (by decide)⟩
theorem gb_outl {A B : Prop} {v m : Int32} (h : v < 0 ∨ m ≤ v) (b : B) : (v < 0 → B) ∧ (¬ v < 0 → (v < m → A) ∧ (¬ v < m → B)) :=
  ⟨fun _ => b, fun h0 => ⟨fun h1 => (h.elim (fun z => absurd z h0) (fun z => absurd h1 (Int32.not_lt.mpr z))), fun _ => b⟩⟩
theorem gb_oute {A B : Prop} {v m : Int32} (h : v < 0 ∨ m ≤ v) (b : B) : (v < 0 → B) ∧ (¬ v < 0 → (m ≤ v → B) ∧ (¬ m ≤ v → A)) :=
  ⟨fun _ => b, fun h0 => ⟨fun _ => b, fun h1 => (h.elim (fun z => absurd z h0) (fun z => absurd z h1))⟩⟩
theorem gb_inl {A B : Prop} {j n : Nat} (hj : j < n) (hn : n ≤ 8) (x : A) : (nI j < 0 → B) ∧ (¬ nI j < 0 → (nI j < nI n → A) ∧ (¬ nI j < nI n → B)) :=
  br_f (nI_pos (by omega)) (br_t (nI_lt hj (by omega)) x)
theorem gb_ine {A B : Prop} {j n : Nat} (hj : j < n) (hn : n ≤ 8) (x : A) : (nI j < 0 → B) ∧ (¬ nI j < 0 → (nI n ≤ nI j → B) ∧ (¬ nI n ≤ nI j → A)) :=
  br_f (nI_pos (by omega)) (br_f (nI_ge hj (by omega)) x)
theorem gb_co {A B : Prop} {x l m : Int32} (h : x < l ∨ m < x) (b : B) : (x < l → B) ∧ (¬ x < l → (x ≤ m → A) ∧ (¬ x ≤ m → B)) :=
  ⟨fun _ => b, fun h0 => ⟨fun h1 => (h.elim (fun z => absurd z h0) (fun z => absurd h1 (Int32.not_le.mpr z))), fun _ => b⟩⟩
theorem gb_ky {A B : Prop} {x : Int32} (h : x = 1 ∨ x = 2 ∨ x = 3) (p : A) : (x = 1 → A) ∧ (¬ x = 1 → (x = 2 → A) ∧ (¬ x = 2 → (x = 3 → A) ∧ (¬ x = 3 → B))) :=
  ⟨fun _ => p, fun n1 => ⟨fun _ => p, fun n2 => ⟨fun _ => p, fun n3 => h.elim (fun z => absurd z n1) fun z => z.elim (fun z => absurd z n2) (fun z => absurd z n3)⟩⟩⟩
theorem gb_kn {A B : Prop} {x : Int32} (h : ¬ (x = 1 ∨ x = 2 ∨ x = 3)) (p : B) : (x = 1 → A) ∧ (¬ x = 1 → (x = 2 → A) ∧ (¬ x = 2 → (x = 3 → A) ∧ (¬ x = 3 → B))) :=
  br_f (fun z => h (Or.inl z)) (br_f (fun z => h (Or.inr (Or.inl z))) (br_f (fun z => h (Or.inr (Or.inr z))) p))
theorem gb_vi {r j : Nat} (hr : r < 8) (hj : j < 4) : vp_in (nI r * 4 + nI j) 32 := by
  rw [gb_ix]
  exact vp_in_nI (by omega) (by omega)

/-! the pure picture: digits, sums, rows, box, the best code so far -/
def gb_d (c e : Nat) : Nat := c / 8 ^ e % 8
theorem gb_dlt (c e : Nat) : gb_d c e < 8 := Nat.mod_lt _ (by decide)
theorem gb_sm : ∀ e, e < 4 → ((nI (3 * e) &&& 31).toBitVec.smod 32).toNat = 3 * e := by decide +kernel
theorem gb_codes : ∀ n, n < 5 → (1 : Int32) <<< ((3 * nI n) &&& 31) = nI (8 ^ n) := by decide +kernel
theorem gb_c4 : ∀ n, n < 5 → 8 ^ n ≤ 4096 := by decide
theorem gb_dig {c e : Nat} (hc : c < 2 ^ 31) (he : e < 4) {s : Int32} (hs : s = nI (3 * e)) : ((nI c >>> (s &&& 31)) &&& 7) = nI (gb_d c e) := by
  subst hs
  have h32 : c / 2 ^ (3 * e) < 2 ^ 32 := Nat.lt_of_le_of_lt (Nat.div_le_self _ _) (by omega)
  rw [pk_shrN hc _ (3 * e) (gb_sm e he), pk_andN (m := 7) h32 3 (by decide), Nat.pow_mul]
  rfl
theorem gb_sX {n v : Nat} (h : v < n) : (3 : Int32) * (nI n - 1 - nI v) = nI (3 * (n - 1 - v)) := by
  have h1 : nI n - nI 1 = nI (n - 1) := pk_sub (by omega)
  have h2 : nI (n - 1) - nI v = nI (n - 1 - v) := pk_sub (by omega)
  have h3 : nI 3 * nI (n - 1 - v) = nI (3 * (n - 1 - v)) := pk_mul _ _
  show nI 3 * (nI n - nI 1 - nI v) = _
  rw [h1, h2, h3]
theorem gb_sY {v : Nat} (h : v < 4) : (3 : Int32) * (3 - nI v) = nI (3 * (3 - v)) := by
  have h2 : nI 3 - nI v = nI (3 - v) := pk_sub (by omega)
  have h3 : nI 3 * nI (3 - v) = nI (3 * (3 - v)) := pk_mul _ _
  show nI 3 * (nI 3 - nI v) = _
  rw [h2, h3]
/-- X's point of a code, Y's point of a number -/
def gb_x (n c : Nat) : Nat → Int32 := fun j => nI (gb_d c (n - 1 - j))
def gb_y (k : Nat) : Nat → Int32 := fun j => nI (gb_d k (3 - j))
theorem gb_digX {n c v : Nat} (hn : n ≤ 4) (hc : c < 2 ^ 31) (h : v < n) : ((nI c >>> ((3 * (nI n - 1 - nI v)) &&& 31)) &&& 7) = gb_x n c v :=
  gb_dig hc (by omega) (gb_sX h)
theorem gb_digY {k v : Nat} (hc : k < 2 ^ 31) (h : v < 4) : ((nI k >>> ((3 * (3 - nI v)) &&& 31)) &&& 7) = gb_y k v :=
  gb_dig hc (by omega) (gb_sY h)
def gb_sum (f x : Nat → Int32) : Nat → Int32
  | 0 => 0
  | j + 1 => gb_sum f x j + f j * x j
theorem gb_sumC {f x y : Nat → Int32} : ∀ {n : Nat}, (∀ j, j < n → x j = y j) → gb_sum f x n = gb_sum f y n := by
  intro n
  induction n with
  | zero => intro _; rfl
  | succ n ih =>
    intro h
    show gb_sum f x n + f n * x n = gb_sum f y n + f n * y n
    rw [ih fun j hj => h j (by omega), h n (by omega)]
def gb_meet (k r s : Int32) : Prop := (k = 1 → s ≤ r) ∧ (k = 2 → r ≤ s) ∧ (k = 3 → s = r)
def gb_rs (a : Nat → Int32) (n : Nat) (x : Nat → Int32) (r : Nat) : Int32 := gb_sum (fun j => a (r * 4 + j)) x n
def gb_row (kd rh a : Nat → Int32) (n : Nat) (x : Nat → Int32) (r : Nat) : Prop := gb_meet (kd r) (rh r) (gb_rs a n x r)
def gb_rows (kd rh a : Nat → Int32) (n R : Nat) (x : Nat → Int32) : Prop := ∀ r, r < R → gb_row kd rh a n x r
theorem gb_rowsC {kd rh a x y : Nat → Int32} {n R : Nat} (h : ∀ j, j < n → x j = y j) : gb_rows kd rh a n R x ↔ gb_rows kd rh a n R y := by
  have e : ∀ r, gb_rs a n x r = gb_rs a n y r := fun r => gb_sumC h
  constructor
  · intro z r hr
    have := z r hr
    unfold gb_row at this ⊢
    rwa [← e r]
  · intro z r hr
    have := z r hr
    unfold gb_row at this ⊢
    rwa [e r]
def gb_in (lo hi x : Nat → Int32) (j : Nat) : Prop := ¬ x j < lo j ∧ ¬ hi j < x j
def gb_box (lo hi : Nat → Int32) (n : Nat) (x : Nat → Int32) : Prop := ∀ j, j < n → gb_in lo hi x j
/-- Y's check of one digit, and of all four -/
def gb_k1 (lo hi : Nat → Int32) (n : Nat) (x : Nat → Int32) (j : Nat) : Prop := (n ≤ j → x j = 0) ∧ (j < n → gb_in lo hi x j)
def gb_ks (lo hi : Nat → Int32) (n : Nat) (x : Nat → Int32) (q : Nat) : Prop := ∀ j, j < q → gb_k1 lo hi n x j
/-- the good codes of X, the good numbers of Y -/
def gb_P (lo hi kd rh a : Nat → Int32) (n R c : Nat) : Prop := gb_box lo hi n (gb_x n c) ∧ gb_rows kd rh a n R (gb_x n c)
def gb_Q (lo hi kd rh a : Nat → Int32) (n R k : Nat) : Prop := gb_ks lo hi n (gb_y k) 4 ∧ gb_rows kd rh a n R (gb_y k)
def gb_V (ob : Nat → Int32) (n c : Nat) : Int32 := gb_sum ob (gb_x n c) n
def gb_U (ob : Nat → Int32) (n k : Nat) : Int32 := gb_sum ob (gb_y k) n
/-- the best so far -/
def gb_up (V : Nat → Int32) (o : Option Nat) (c : Nat) : Option Nat := match o with
  | none => some c
  | some b => if V b < V c then some c else some b
noncomputable def gb_F (P : Nat → Prop) (V : Nat → Int32) : Nat → Option Nat
  | 0 => none
  | c + 1 => @ite _ (P c) (Classical.propDecidable (P c)) (gb_up V (gb_F P V c) c) (gb_F P V c)
theorem gb_Fy {P : Nat → Prop} {V : Nat → Int32} {c : Nat} (h : P c) : gb_F P V (c + 1) = gb_up V (gb_F P V c) c := if_pos h
theorem gb_Fn {P : Nat → Prop} {V : Nat → Int32} {c : Nat} (h : ¬ P c) : gb_F P V (c + 1) = gb_F P V c := if_neg h
theorem gb_Flt {P : Nat → Prop} {V : Nat → Int32} : ∀ {c b : Nat}, gb_F P V c = some b → b < c := by
  intro c
  induction c with
  | zero =>
    intro b h
    have h' : (none : Option Nat) = some b := h
    cases h'
  | succ c ih =>
    intro b h
    by_cases hp : P c
    · rw [gb_Fy hp] at h
      cases e : gb_F P V c with
      | none =>
        rw [e] at h
        have h : some c = some b := h
        cases h
        omega
      | some b' =>
        rw [e] at h
        have hb := ih e
        have h : (if V b' < V c then some c else some b') = some b := h
        by_cases hv : V b' < V c
        · rw [if_pos hv] at h
          cases h
          omega
        · rw [if_neg hv] at h
          cases h
          omega
    · rw [gb_Fn hp] at h
      have := ih h
      omega
theorem gb_upM {V U : Nat → Int32} {m : Nat} (hV : ∀ c, U (c * m) = V c) (o : Option Nat) (c : Nat) : gb_up U (o.map (fun b => b * m)) (c * m) = (gb_up V o c).map (fun b => b * m) := by
  cases o with
  | none => rfl
  | some b =>
    show (if U (b * m) < U (c * m) then some (c * m) else some (b * m)) = (if V b < V c then some c else some b).map (fun b => b * m)
    rw [hV, hV]
    by_cases h : V b < V c
    · rw [if_pos h, if_pos h]; rfl
    · rw [if_neg h, if_neg h]; rfl
theorem gb_tr {P Q : Nat → Prop} {V U : Nat → Int32} {m : Nat} (hm : 0 < m) (hP : ∀ c, Q (c * m) ↔ P c) (hN : ∀ k, k % m ≠ 0 → ¬ Q k) (hV : ∀ c, U (c * m) = V c) : ∀ c, gb_F Q U (c * m) = (gb_F P V c).map (fun b => b * m) := by
  intro c
  induction c with
  | zero => rw [Nat.zero_mul]; rfl
  | succ c ih =>
    have h1 : gb_F Q U (c * m + 1) = (gb_F P V (c + 1)).map (fun b => b * m) := by
      by_cases hp : P c
      · rw [gb_Fy ((hP c).mpr hp), gb_Fy hp, ih, gb_upM hV]
      · rw [gb_Fn (fun z => hp ((hP c).mp z)), gb_Fn hp, ih]
    have h2 : ∀ r, r < m → gb_F Q U (c * m + (r + 1)) = gb_F Q U (c * m + 1) := by
      intro r
      induction r with
      | zero => intro _; rfl
      | succ r ihr =>
        intro hr
        have hz : ¬ Q (c * m + (r + 1)) := by
          apply hN
          rw [Nat.mul_add_mod_of_lt hr]
          omega
        exact (gb_Fn hz).trans (ihr (by omega))
    have e : (c + 1) * m = c * m + ((m - 1) + 1) := by
      rw [Nat.succ_mul]
      omega
    rw [e, h2 (m - 1) (by omega), h1]
/-! Y's numbers and X's codes -/
theorem gb_8p (e : Nat) : 0 < 8 ^ e := Nat.pow_pos (by decide)
theorem gb_yx {n c j : Nat} (hn : n ≤ 4) (h : j < n) : gb_y (c * 8 ^ (4 - n)) j = gb_x n c j := by
  have e : 8 ^ (3 - j) = 8 ^ (n - 1 - j) * 8 ^ (4 - n) := by
    rw [← Nat.pow_add]
    exact congrArg (fun t => 8 ^ t) (by omega)
  show nI (c * 8 ^ (4 - n) / 8 ^ (3 - j) % 8) = nI (c / 8 ^ (n - 1 - j) % 8)
  rw [e, Nat.mul_div_mul_right _ _ (gb_8p _)]
theorem gb_y0 {n c j : Nat} (h : n ≤ j) (hj : j < 4) : gb_y (c * 8 ^ (4 - n)) j = 0 := by
  have e : 8 ^ (4 - n) = 8 ^ (j - n) * 8 * 8 ^ (3 - j) := by
    rw [← Nat.pow_succ, ← Nat.pow_add]
    exact congrArg (fun t => 8 ^ t) (by omega)
  show nI (c * 8 ^ (4 - n) / 8 ^ (3 - j) % 8) = nI 0
  rw [e, ← Nat.mul_assoc, Nat.mul_div_cancel _ (gb_8p _), ← Nat.mul_assoc, Nat.mul_mod_left]
theorem gb_k0 {lo hi : Nat → Int32} {n k : Nat} (h1 : 1 ≤ n) (hn : n ≤ 4) (h : gb_ks lo hi n (gb_y k) 4) : k % 8 ^ (4 - n) = 0 := by
  have z : ∀ j, n ≤ j → j < 4 → k / 8 ^ (3 - j) % 8 = 0 := by
    intro j h1 h2
    have e : nI (gb_d k (3 - j)) = nI 0 := (h j h2).1 h1
    exact (nI_eq (Nat.lt_trans (gb_dlt _ _) (by decide)) (by decide)).mp e
  obtain rfl | rfl | rfl | rfl : n = 1 ∨ n = 2 ∨ n = 3 ∨ n = 4 := by omega
  · have a : k / 64 % 8 = 0 := z 1 (by omega) (by omega)
    have b : k / 8 % 8 = 0 := z 2 (by omega) (by omega)
    have c : k / 1 % 8 = 0 := z 3 (by omega) (by omega)
    show k % 512 = 0
    omega
  · have b : k / 8 % 8 = 0 := z 2 (by omega) (by omega)
    have c : k / 1 % 8 = 0 := z 3 (by omega) (by omega)
    show k % 64 = 0
    omega
  · have c : k / 1 % 8 = 0 := z 3 (by omega) (by omega)
    show k % 8 = 0
    omega
  · show k % 1 = 0
    omega
theorem gb_QP {lo hi kd rh a : Nat → Int32} {n R c : Nat} (hn : n ≤ 4) : gb_Q lo hi kd rh a n R (c * 8 ^ (4 - n)) ↔ gb_P lo hi kd rh a n R c := by
  have hr : gb_rows kd rh a n R (gb_y (c * 8 ^ (4 - n))) ↔ gb_rows kd rh a n R (gb_x n c) := gb_rowsC fun j hj => gb_yx hn hj
  have hb : gb_ks lo hi n (gb_y (c * 8 ^ (4 - n))) 4 ↔ gb_box lo hi n (gb_x n c) := by
    constructor
    · intro z j hj
      have w := (z j (by omega)).2 hj
      unfold gb_in at w ⊢
      rwa [gb_yx hn hj] at w
    · intro z j hj
      refine ⟨fun h => gb_y0 h hj, fun h => ?_⟩
      have w := z j h
      unfold gb_in at w ⊢
      rwa [gb_yx hn h]
  unfold gb_Q gb_P
  rw [hr, hb]
theorem gb_UV {ob : Nat → Int32} {n : Nat} (hn : n ≤ 4) (c : Nat) : gb_U ob n (c * 8 ^ (4 - n)) = gb_V ob n c := by
  unfold gb_U gb_V
  exact gb_sumC fun j hj => gb_yx hn hj
theorem gb_FF {lo hi kd rh a ob : Nat → Int32} {n R : Nat} (h1 : 1 ≤ n) (hn : n ≤ 4) : gb_F (gb_Q lo hi kd rh a n R) (gb_U ob n) 4096 = (gb_F (gb_P lo hi kd rh a n R) (gb_V ob n) (8 ^ n)).map (fun b => b * 8 ^ (4 - n)) := by
  have e : 8 ^ n * 8 ^ (4 - n) = 4096 := by
    have h := Nat.pow_add 8 n (4 - n)
    have h4 : n + (4 - n) = 4 := by omega
    rw [h4] at h
    exact h.symm
  rw [← e]
  exact gb_tr (gb_8p _) (fun c => gb_QP hn) (fun k hk z => hk (gb_k0 h1 hn z.1)) (fun c => gb_UV hn c) _
/-! what the two sides hold of the best so far -/
def gb_st (o : Option Nat) : Int32 := match o with
  | none => 2
  | some _ => 1
def gb_fd (o : Option Nat) : Int32 := match o with
  | none => 0
  | some _ => 1
def gb_bv (V : Nat → Int32) (o : Option Nat) : Int32 := match o with
  | none => 0
  | some b => V b
def gb_bc (o : Option Nat) : Int32 := match o with
  | none => 0
  | some b => nI b
def gb_pt (o : Option Nat) (pt : Nat → Int32) : Prop := ∀ b, o = some b → ∀ j, j < 4 → pt j = gb_y b j
/-- x stored into the cells from b on, j of them -/
def gb_fill (f : Nat → Int32) (b : Nat) (x : Int32) : Nat → (Nat → Int32)
  | 0 => f
  | j + 1 => upd (gb_fill f b x j) (b + j) x

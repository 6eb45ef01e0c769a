section
theorem pk_us {f : Nat → Int32} {k : Nat} {x : Int32} : upd f k x k = x := if_pos rfl
theorem pk_un {f : Nat → Int32} {k j : Nat} {x : Int32} (h : j ≠ k) : upd f k x j = f j := if_neg h
theorem pk_sub {a b : Nat} (h : b ≤ a) : nI a - nI b = nI (a - b) := by
  obtain ⟨c, rfl⟩ : ∃ c, a = c + b := ⟨a - b, by omega⟩
  rw [← nI_add, Int32.add_sub_cancel, Nat.add_sub_cancel]
theorem pk_mul (a b : Nat) : nI a * nI b = nI (a * b) := (Int32.ofNat_mul a b).symm
theorem pk_ix (x : Int32) {n : Nat} (hn : n < 2 ^ 31) : x < 0 ∨ nI n ≤ x ∨ ∃ j : Nat, j < n ∧ x = nI j := by
  by_cases h : x < 0
  · exact Or.inl h
  · obtain ⟨j, hj, rfl⟩ := nI_of h
    by_cases h2 : j < n
    · exact Or.inr (Or.inr ⟨j, h2, rfl⟩)
    · exact Or.inr (Or.inl (nI_le (by omega) hj))
theorem pk_le {x y : Int32} {A B : Prop} (a b : Nat) (f : a ≤ b → A) (g : b < a → B) (hx : x = nI a := by rfl) (hy : y = nI b := by rfl) (ha : a < 2 ^ 31 := by omega) (hb : b < 2 ^ 31 := by omega) : (x ≤ y → A) ∧ (¬ x ≤ y → B) := by
  subst hx hy
  rw [nI_leI ha hb]
  exact ⟨f, fun z => g (by omega)⟩
theorem pk_lt {x y : Int32} {A B : Prop} (a b : Nat) (f : a < b → A) (g : b ≤ a → B) (hx : x = nI a := by rfl) (hy : y = nI b := by rfl) (ha : a < 2 ^ 31 := by omega) (hb : b < 2 ^ 31 := by omega) : (x < y → A) ∧ (¬ x < y → B) := by
  subst hx hy
  rw [nI_ltI ha hb]
  exact ⟨f, fun z => g (by omega)⟩
theorem pk_eq {x y : Int32} {A B : Prop} (a b : Nat) (f : a = b → A) (g : a ≠ b → B) (hx : x = nI a := by rfl) (hy : y = nI b := by rfl) (ha : a < 2 ^ 31 := by omega) (hb : b < 2 ^ 31 := by omega) : (x = y → A) ∧ (¬ x = y → B) := by
  subst hx hy
  rw [nI_eq ha hb]
  exact ⟨f, g⟩
theorem pk_in {x : Int32} (n N : Nat) (h : n < N) (hx : x = nI n := by rfl) (hN : N < 2 ^ 31 := by omega) : vp_in x N := by
  subst hx
  exact vp_in_nI h hN
theorem pk_cl {x : Int32} (n : Nat) (hx : x = nI n := by rfl) (h : n < 2 ^ 31 := by omega) : x.toNatClampNeg = n := by
  subst hx
  exact nI_clamp h
theorem pk_tn {n : Nat} (h : n < 2 ^ 32) : (nI n).toBitVec.toNat = n := Nat.mod_eq_of_lt h
theorem pk_and (x : Int32) {m : Int32} (k : Nat) (hm : m.toBitVec.toNat = 2 ^ k - 1) : x &&& m = nI (x.toBitVec.toNat % 2 ^ k) := by
  apply Int32.toBitVec_inj.mp
  apply BitVec.eq_of_toNat_eq
  rw [Int32.toBitVec_and, BitVec.toNat_and, hm, Nat.and_two_pow_sub_one_eq_mod]
  show _ = (BitVec.ofNat 32 _).toNat
  rw [BitVec.toNat_ofNat]
  exact (Nat.mod_eq_of_lt (Nat.lt_of_le_of_lt (Nat.mod_le _ _) x.toBitVec.isLt)).symm
theorem pk_andN {n : Nat} (h : n < 2 ^ 32) {m : Int32} (k : Nat) (hm : m.toBitVec.toNat = 2 ^ k - 1) : nI n &&& m = nI (n % 2 ^ k) := by
  rw [pk_and _ k hm, pk_tn h]
theorem pk_shl (a s : Int32) (k : Nat) (hs : (s.toBitVec.smod 32).toNat = k) : (a <<< s).toBitVec.toNat = a.toBitVec.toNat * 2 ^ k % 2 ^ 32 := by
  show (a.toBitVec <<< (s.toBitVec.smod 32).toNat).toNat = _
  rw [hs, BitVec.toNat_shiftLeft, Nat.shiftLeft_eq]
theorem pk_shlN {n : Nat} (s : Int32) (k : Nat) (hs : (s.toBitVec.smod 32).toNat = k) (h : n * 2 ^ k < 2 ^ 32) : nI n <<< s = nI (n * 2 ^ k) := by
  apply Int32.toBitVec_inj.mp
  apply BitVec.eq_of_toNat_eq
  have hn : n < 2 ^ 32 := Nat.lt_of_le_of_lt (Nat.le_mul_of_pos_right n (Nat.two_pow_pos k)) h
  rw [pk_shl _ _ k hs, pk_tn hn, pk_tn h, Nat.mod_eq_of_lt h]
theorem pk_shr (a s : Int32) (k : Nat) (hs : (s.toBitVec.smod 32).toNat = k) : (a >>> s).toInt = a.toInt >>> k := by
  show (a.toBitVec.sshiftRight (s.toBitVec.smod 32).toNat).toInt = _
  rw [hs, BitVec.toInt_sshiftRight]
  rfl
theorem pk_shrN {n : Nat} (h : n < 2 ^ 31) (s : Int32) (k : Nat) (hs : (s.toBitVec.smod 32).toNat = k) : nI n >>> s = nI (n / 2 ^ k) := by
  apply Int32.toInt_inj.mp
  have h2 : n / 2 ^ k ≤ n := Nat.div_le_self _ _
  rw [pk_shr _ _ k hs, nI_toInt h, nI_toInt (by omega), Int.shiftRight_eq_div_pow]
  rfl
end
section
/-! the pure picture: digits, sums, rows, box, the best code so far -/
def gb_d (c e : Nat) : Nat := c / 8 ^ e % 8
theorem gb_dlt (c e : Nat) : gb_d c e < 8 := Nat.mod_lt _ (by decide)
theorem gb_sm : ∀ e, e < 4 → ((nI (3 * e) &&& 31).toBitVec.smod 32).toNat = 3 * e := by decide +kernel
theorem gb_codes : ∀ n, n < 5 → (1 : Int32) <<< ((3 * nI n) &&& 31) = nI (8 ^ n) := by decide +kernel
theorem gb_c4 : ∀ n, n < 5 → 8 ^ n ≤ 4096 := by decide
theorem gb_dig {c e : Nat} (hc : c < 2 ^ 31) (he : e < 4) {s : Int32} (hs : s = nI (3 * e)) : ((nI c >>> (s &&& 31)) &&& 7) = nI (gb_d c e) := by
  subst hs
  have h32 : c / 2 ^ (3 * e) < 2 ^ 32 := Nat.lt_of_le_of_lt (Nat.div_le_self _ _) (by omega)
  rw [pk_shrN hc _ (3 * e) (gb_sm e he), pk_andN (m := 7) h32 3 (by decide), Nat.pow_mul]
  rfl
theorem gb_sX {n v : Nat} (h : v < n) : (3 : Int32) * (nI n - 1 - nI v) = nI (3 * (n - 1 - v)) := by
  have h1 : nI n - nI 1 = nI (n - 1) := pk_sub (by omega)
  have h2 : nI (n - 1) - nI v = nI (n - 1 - v) := pk_sub (by omega)
  have h3 : nI 3 * nI (n - 1 - v) = nI (3 * (n - 1 - v)) := pk_mul _ _
  show nI 3 * (nI n - nI 1 - nI v) = _
  rw [h1, h2, h3]
theorem gb_sY {v : Nat} (h : v < 4) : (3 : Int32) * (3 - nI v) = nI (3 * (3 - v)) := by
  have h2 : nI 3 - nI v = nI (3 - v) := pk_sub (by omega)
  have h3 : nI 3 * nI (3 - v) = nI (3 * (3 - v)) := pk_mul _ _
  show nI 3 * (nI 3 - nI v) = _
  rw [h2, h3]
/-- X's point of a code, Y's point of a number -/
def gb_x (n c : Nat) : Nat → Int32 := fun j => nI (gb_d c (n - 1 - j))
def gb_y (k : Nat) : Nat → Int32 := fun j => nI (gb_d k (3 - j))
theorem gb_digX {n c v : Nat} (hn : n ≤ 4) (hc : c < 2 ^ 31) (h : v < n) : ((nI c >>> ((3 * (nI n - 1 - nI v)) &&& 31)) &&& 7) = gb_x n c v :=
  gb_dig hc (by omega) (gb_sX h)
theorem gb_digY {k v : Nat} (hc : k < 2 ^ 31) (h : v < 4) : ((nI k >>> ((3 * (3 - nI v)) &&& 31)) &&& 7) = gb_y k v :=
  gb_dig hc (by omega) (gb_sY h)
def gb_sum (f x : Nat → Int32) : Nat → Int32
  | 0 => 0
  | j + 1 => gb_sum f x j + f j * x j
theorem gb_sumC {f x y : Nat → Int32} : ∀ {n : Nat}, (∀ j, j < n → x j = y j) → gb_sum f x n = gb_sum f y n := by
  intro n
  induction n with
  | zero => intro _; rfl
  | succ n ih =>
    intro h
    show gb_sum f x n + f n * x n = gb_sum f y n + f n * y n
    rw [ih fun j hj => h j (by omega), h n (by omega)]
def gb_meet (k r s : Int32) : Prop := (k = 1 → s ≤ r) ∧ (k = 2 → r ≤ s) ∧ (k = 3 → s = r)
def gb_rs (a : Nat → Int32) (n : Nat) (x : Nat → Int32) (r : Nat) : Int32 := gb_sum (fun j => a (r * 4 + j)) x n
def gb_row (kd rh a : Nat → Int32) (n : Nat) (x : Nat → Int32) (r : Nat) : Prop := gb_meet (kd r) (rh r) (gb_rs a n x r)
def gb_rows (kd rh a : Nat → Int32) (n R : Nat) (x : Nat → Int32) : Prop := ∀ r, r < R → gb_row kd rh a n x r
theorem gb_rowsC {kd rh a x y : Nat → Int32} {n R : Nat} (h : ∀ j, j < n → x j = y j) : gb_rows kd rh a n R x ↔ gb_rows kd rh a n R y := by
  have e : ∀ r, gb_rs a n x r = gb_rs a n y r := fun r => gb_sumC h
  constructor
  · intro z r hr
    have := z r hr
    unfold gb_row at this ⊢
    rwa [← e r]
  · intro z r hr
    have := z r hr
    unfold gb_row at this ⊢
    rwa [e r]
def gb_in (lo hi x : Nat → Int32) (j : Nat) : Prop := ¬ x j < lo j ∧ ¬ hi j < x j
def gb_box (lo hi : Nat → Int32) (n : Nat) (x : Nat → Int32) : Prop := ∀ j, j < n → gb_in lo hi x j
/-- Y's check of one digit, and of all four -/
def gb_k1 (lo hi : Nat → Int32) (n : Nat) (x : Nat → Int32) (j : Nat) : Prop := (n ≤ j → x j = 0) ∧ (j < n → gb_in lo hi x j)
def gb_ks (lo hi : Nat → Int32) (n : Nat) (x : Nat → Int32) (q : Nat) : Prop := ∀ j, j < q → gb_k1 lo hi n x j
/-- the good codes of X, the good numbers of Y -/
def gb_P (lo hi kd rh a : Nat → Int32) (n R c : Nat) : Prop := gb_box lo hi n (gb_x n c) ∧ gb_rows kd rh a n R (gb_x n c)
def gb_Q (lo hi kd rh a : Nat → Int32) (n R k : Nat) : Prop := gb_ks lo hi n (gb_y k) 4 ∧ gb_rows kd rh a n R (gb_y k)
def gb_V (ob : Nat → Int32) (n c : Nat) : Int32 := gb_sum ob (gb_x n c) n
def gb_U (ob : Nat → Int32) (n k : Nat) : Int32 := gb_sum ob (gb_y k) n
/-- the best so far -/
def gb_up (V : Nat → Int32) (o : Option Nat) (c : Nat) : Option Nat := match o with
  | none => some c
  | some b => if V b < V c then some c else some b
noncomputable def gb_F (P : Nat → Prop) (V : Nat → Int32) : Nat → Option Nat
  | 0 => none
  | c + 1 => @ite _ (P c) (Classical.propDecidable (P c)) (gb_up V (gb_F P V c) c) (gb_F P V c)
theorem gb_Fy {P : Nat → Prop} {V : Nat → Int32} {c : Nat} (h : P c) : gb_F P V (c + 1) = gb_up V (gb_F P V c) c := if_pos h
theorem gb_Fn {P : Nat → Prop} {V : Nat → Int32} {c : Nat} (h : ¬ P c) : gb_F P V (c + 1) = gb_F P V c := if_neg h
theorem gb_Flt {P : Nat → Prop} {V : Nat → Int32} : ∀ {c b : Nat}, gb_F P V c = some b → b < c := by
  intro c
  induction c with
  | zero =>
    intro b h
    have h' : (none : Option Nat) = some b := h
    cases h'
  | succ c ih =>
    intro b h
    by_cases hp : P c
    · rw [gb_Fy hp] at h
      cases e : gb_F P V c with
      | none =>
        rw [e] at h
        have h : some c = some b := h
        cases h
        omega
      | some b' =>
        rw [e] at h
        have hb := ih e
        have h : (if V b' < V c then some c else some b') = some b := h
        by_cases hv : V b' < V c
        · rw [if_pos hv] at h
          cases h
          omega
        · rw [if_neg hv] at h
          cases h
          omega
    · rw [gb_Fn hp] at h
      have := ih h
      omega
theorem gb_upM {V U : Nat → Int32} {m : Nat} (hV : ∀ c, U (c * m) = V c) (o : Option Nat) (c : Nat) : gb_up U (o.map (fun b => b * m)) (c * m) = (gb_up V o c).map (fun b => b * m) := by
  cases o with
  | none => rfl
  | some b =>
    show (if U (b * m) < U (c * m) then some (c * m) else some (b * m)) = (if V b < V c then some c else some b).map (fun b => b * m)
    rw [hV, hV]
    by_cases h : V b < V c
    · rw [if_pos h, if_pos h]; rfl
    · rw [if_neg h, if_neg h]; rfl
theorem gb_tr {P Q : Nat → Prop} {V U : Nat → Int32} {m : Nat} (hm : 0 < m) (hP : ∀ c, Q (c * m) ↔ P c) (hN : ∀ k, k % m ≠ 0 → ¬ Q k) (hV : ∀ c, U (c * m) = V c) : ∀ c, gb_F Q U (c * m) = (gb_F P V c).map (fun b => b * m) := by
  intro c
  induction c with
  | zero => rw [Nat.zero_mul]; rfl
  | succ c ih =>
    have h1 : gb_F Q U (c * m + 1) = (gb_F P V (c + 1)).map (fun b => b * m) := by
      by_cases hp : P c
      · rw [gb_Fy ((hP c).mpr hp), gb_Fy hp, ih, gb_upM hV]
      · rw [gb_Fn (fun z => hp ((hP c).mp z)), gb_Fn hp, ih]
    have h2 : ∀ r, r < m → gb_F Q U (c * m + (r + 1)) = gb_F Q U (c * m + 1) := by
      intro r
      induction r with
      | zero => intro _; rfl
      | succ r ihr =>
        intro hr
        have hz : ¬ Q (c * m + (r + 1)) := by
          apply hN
          rw [Nat.mul_add_mod_of_lt hr]
          omega
        exact (gb_Fn hz).trans (ihr (by omega))
    have e : (c + 1) * m = c * m + ((m - 1) + 1) := by
      rw [Nat.succ_mul]
      omega
    rw [e, h2 (m - 1) (by omega), h1]
/-! Y's numbers and X's codes -/
theorem gb_8p (e : Nat) : 0 < 8 ^ e := Nat.pow_pos (by decide)
theorem gb_yx {n c j : Nat} (hn : n ≤ 4) (h : j < n) : gb_y (c * 8 ^ (4 - n)) j = gb_x n c j := by
  have e : 8 ^ (3 - j) = 8 ^ (n - 1 - j) * 8 ^ (4 - n) := by
    rw [← Nat.pow_add]
    exact congrArg (fun t => 8 ^ t) (by omega)
  show nI (c * 8 ^ (4 - n) / 8 ^ (3 - j) % 8) = nI (c / 8 ^ (n - 1 - j) % 8)
  rw [e, Nat.mul_div_mul_right _ _ (gb_8p _)]
theorem gb_y0 {n c j : Nat} (h : n ≤ j) (hj : j < 4) : gb_y (c * 8 ^ (4 - n)) j = 0 := by
  have e : 8 ^ (4 - n) = 8 ^ (j - n) * 8 * 8 ^ (3 - j) := by
    rw [← Nat.pow_succ, ← Nat.pow_add]
    exact congrArg (fun t => 8 ^ t) (by omega)
  show nI (c * 8 ^ (4 - n) / 8 ^ (3 - j) % 8) = nI 0
  rw [e, ← Nat.mul_assoc, Nat.mul_div_cancel _ (gb_8p _), ← Nat.mul_assoc, Nat.mul_mod_left]
theorem gb_k0 {lo hi : Nat → Int32} {n k : Nat} (h1 : 1 ≤ n) (hn : n ≤ 4) (h : gb_ks lo hi n (gb_y k) 4) : k % 8 ^ (4 - n) = 0 := by
  have z : ∀ j, n ≤ j → j < 4 → k / 8 ^ (3 - j) % 8 = 0 := by
    intro j h1 h2
    have e : nI (gb_d k (3 - j)) = nI 0 := (h j h2).1 h1
    exact (nI_eq (Nat.lt_trans (gb_dlt _ _) (by decide)) (by decide)).mp e
  obtain rfl | rfl | rfl | rfl : n = 1 ∨ n = 2 ∨ n = 3 ∨ n = 4 := by omega
  · have a : k / 64 % 8 = 0 := z 1 (by omega) (by omega)
    have b : k / 8 % 8 = 0 := z 2 (by omega) (by omega)
    have c : k / 1 % 8 = 0 := z 3 (by omega) (by omega)
    show k % 512 = 0
    omega
  · have b : k / 8 % 8 = 0 := z 2 (by omega) (by omega)
    have c : k / 1 % 8 = 0 := z 3 (by omega) (by omega)
    show k % 64 = 0
    omega
  · have c : k / 1 % 8 = 0 := z 3 (by omega) (by omega)
    show k % 8 = 0
    omega
  · show k % 1 = 0
    omega
theorem gb_QP {lo hi kd rh a : Nat → Int32} {n R c : Nat} (hn : n ≤ 4) : gb_Q lo hi kd rh a n R (c * 8 ^ (4 - n)) ↔ gb_P lo hi kd rh a n R c := by
  have hr : gb_rows kd rh a n R (gb_y (c * 8 ^ (4 - n))) ↔ gb_rows kd rh a n R (gb_x n c) := gb_rowsC fun j hj => gb_yx hn hj
  have hb : gb_ks lo hi n (gb_y (c * 8 ^ (4 - n))) 4 ↔ gb_box lo hi n (gb_x n c) := by
    constructor
    · intro z j hj
      have w := (z j (by omega)).2 hj
      unfold gb_in at w ⊢
      rwa [gb_yx hn hj] at w
    · intro z j hj
      refine ⟨fun h => gb_y0 h hj, fun h => ?_⟩
      have w := z j h
      unfold gb_in at w ⊢
      rwa [gb_yx hn h]
  unfold gb_Q gb_P
  rw [hr, hb]
theorem gb_UV {ob : Nat → Int32} {n : Nat} (hn : n ≤ 4) (c : Nat) : gb_U ob n (c * 8 ^ (4 - n)) = gb_V ob n c := by
  unfold gb_U gb_V
  exact gb_sumC fun j hj => gb_yx hn hj
theorem gb_FF {lo hi kd rh a ob : Nat → Int32} {n R : Nat} (h1 : 1 ≤ n) (hn : n ≤ 4) : gb_F (gb_Q lo hi kd rh a n R) (gb_U ob n) 4096 = (gb_F (gb_P lo hi kd rh a n R) (gb_V ob n) (8 ^ n)).map (fun b => b * 8 ^ (4 - n)) := by
  have e : 8 ^ n * 8 ^ (4 - n) = 4096 := by
    have h := Nat.pow_add 8 n (4 - n)
    have h4 : n + (4 - n) = 4 := by omega
    rw [h4] at h
    exact h.symm
  rw [← e]
  exact gb_tr (gb_8p _) (fun c => gb_QP hn) (fun k hk z => hk (gb_k0 h1 hn z.1)) (fun c => gb_UV hn c) _
/-! what the two sides hold of the best so far -/
def gb_st (o : Option Nat) : Int32 := match o with
  | none => 2
  | some _ => 1
def gb_fd (o : Option Nat) : Int32 := match o with
  | none => 0
  | some _ => 1
def gb_bv (V : Nat → Int32) (o : Option Nat) : Int32 := match o with
  | none => 0
  | some b => V b
def gb_bc (o : Option Nat) : Int32 := match o with
  | none => 0
  | some b => nI b
def gb_pt (o : Option Nat) (pt : Nat → Int32) : Prop := ∀ b, o = some b → ∀ j, j < 4 → pt j = gb_y b j
/-- x stored into the cells from b on, j of them -/
def gb_fill (f : Nat → Int32) (b : Nat) (x : Int32) : Nat → (Nat → Int32)
  | 0 => f
  | j + 1 => upd (gb_fill f b x j) (b + j) x
end
section
/-! X: its private methods, one lemma each -/
theorem gb_ix (r j : Nat) : nI r * 4 + nI j = nI (r * 4 + j) := by
  show nI r * nI 4 + nI j = _
  rw [pk_mul, nI_add]
section
variable {n R c : Nat} {fr st bv bc : Int32} {ob lo hi kd rh a : Nat → Int32}
theorem gx_isVar {post : Int32 → Prop} {v : Int32} (hn : n ≤ 4) (h1 : ∀ j, j < n → v = nI j → post 1) (h0 : v < 0 ∨ nI n ≤ v → post 0) : wpX_isVar post (nI n, fr, st, bv, bc, ob, lo, hi, kd, rh, a) v := by
  unfold wpX_isVar
  rcases pk_ix v (show n < 2 ^ 31 by omega) with h | h | ⟨j, hj, e⟩
  · exact br_t h (h0 (Or.inl h))
  · by_cases h' : v < 0
    · exact br_t h' (h0 (Or.inl h'))
    · exact br_f h' (br_t h (h0 (Or.inr h)))
  · have hp : ¬ v < 0 := by rw [e]; exact nI_pos (by omega)
    have hq : ¬ nI n ≤ v := by rw [e]; exact nI_ge hj (by omega)
    exact br_f hp (br_f hq (h1 j hj e))
theorem gx_isRow {post : Int32 → Prop} {v : Int32} {fn : Int32} (hR : R ≤ 8) (h1 : ∀ j, j < R → v = nI j → post 1) (h0 : v < 0 ∨ nI R ≤ v → post 0) : wpX_isRow post (fn, nI R, st, bv, bc, ob, lo, hi, kd, rh, a) v := by
  unfold wpX_isRow
  rcases pk_ix v (show R < 2 ^ 31 by omega) with h | h | ⟨j, hj, e⟩
  · exact br_t h (h0 (Or.inl h))
  · by_cases h' : v < 0
    · exact br_t h' (h0 (Or.inl h'))
    · exact br_f h' (br_t h (h0 (Or.inr h)))
  · have hp : ¬ v < 0 := by rw [e]; exact nI_pos (by omega)
    have hq : ¬ nI R ≤ v := by rw [e]; exact nI_ge hj (by omega)
    exact br_f hp (br_f hq (h1 j hj e))
theorem gx_co {post : Int32 → Prop} {v : Nat} (hn : n ≤ 4) (hc : c < 4096) (hv : v < n) (h : post (gb_x n c v)) : wpX_coordinate post (nI n, fr, st, bv, bc, ob, lo, hi, kd, rh, a) (nI c) (nI v) := by
  have e := gb_digX (n := n) (c := c) (v := v) hn (by omega) hv
  unfold wpX_coordinate
  dsimp only
  rw [e]
  exact h
theorem gx_rsL {post : Int32 → Prop} {r : Nat} (hn : n ≤ 4) (hc : c < 4096) (hr : r < 8) (h : post (gb_rs a n (gb_x n c) r)) : ∀ d j, j + d = n → wX_rowSum_5 post (nI r) (nI c) (nI n) fr st bv bc ob lo hi kd rh a (d + 1) (gb_sum (fun j => a (r * 4 + j)) (gb_x n c) j) (nI j) := by
  intro d
  induction d with
  | zero =>
    intro j hj
    have e : j = n := by omega
    subst e
    exact br_t (nI_le (by omega) (by omega)) h
  | succ d ih =>
    intro j hj
    have i1 := gb_ix r j
    have i2 : (nI r * 4 + nI j).toNatClampNeg = r * 4 + j := by rw [i1]; exact nI_clamp (by omega)
    have i3 : vp_in (nI r * 4 + nI j) 32 := by rw [i1]; exact vp_in_nI (by omega) (by omega)
    refine br_f (nI_ge (by omega) (by omega)) ⟨i3, gx_co hn hc (by omega) ?_⟩
    refine nm_r ?_ (nm_r (nI_1 j) (ih (j + 1) (by omega)))
    rw [i2]
    rfl
theorem gx_rs {post : Int32 → Prop} {r : Nat} (hn : n ≤ 4) (hc : c < 4096) (hr : r < 8) (h : post (gb_rs a n (gb_x n c) r)) : wpX_rowSum post (nI n, fr, st, bv, bc, ob, lo, hi, kd, rh, a) (nI r) (nI c) := by
  unfold wpX_rowSum
  exact ⟨n + 1, gx_rsL hn hc hr h n 0 (by omega)⟩
theorem gx_osL {post : Int32 → Prop} (hn : n ≤ 4) (hc : c < 4096) (h : post (gb_V ob n c)) : ∀ d j, j + d = n → wX_objectiveSum_4 post (nI c) (nI n) fr st bv bc ob lo hi kd rh a (d + 1) (gb_sum ob (gb_x n c) j) (nI j) := by
  intro d
  induction d with
  | zero =>
    intro j hj
    have e : j = n := by omega
    subst e
    exact br_t (nI_le (by omega) (by omega)) h
  | succ d ih =>
    intro j hj
    have i2 : (nI j).toNatClampNeg = j := nI_clamp (by omega)
    refine br_f (nI_ge (by omega) (by omega)) ⟨vp_in_nI (by omega) (by omega), gx_co hn hc (by omega) ?_⟩
    refine nm_r ?_ (nm_r (nI_1 j) (ih (j + 1) (by omega)))
    rw [i2]
    rfl
theorem gx_os {post : Int32 → Prop} (hn : n ≤ 4) (hc : c < 4096) (h : post (gb_V ob n c)) : wpX_objectiveSum post (nI n, fr, st, bv, bc, ob, lo, hi, kd, rh, a) (nI c) := by
  unfold wpX_objectiveSum
  exact ⟨n + 1, gx_osL hn hc h n 0 (by omega)⟩
theorem gx_boxL {post : Int32 → Prop} (hn : n ≤ 4) (hc : c < 4096) (h1 : gb_box lo hi n (gb_x n c) → post 1) (h0 : ¬ gb_box lo hi n (gb_x n c) → post 0) : ∀ d j, j + d = n → (∀ i, i < j → gb_in lo hi (gb_x n c) i) → wX_isInBox_2 post (nI c) (nI n) fr st bv bc ob lo hi kd rh a (d + 1) (nI j) := by
  intro d
  induction d with
  | zero =>
    intro j hj hb
    have e : j = n := by omega
    subst e
    exact br_t (nI_le (by omega) (by omega)) (h1 hb)
  | succ d ih =>
    intro j hj hb
    have i2 : (nI j).toNatClampNeg = j := nI_clamp (by omega)
    have i3 : vp_in (nI j) 4 := vp_in_nI (by omega) (by omega)
    refine br_f (nI_ge (by omega) (by omega)) (gx_co hn hc (by omega) ⟨i3, ?_⟩)
    rw [i2]
    by_cases hl : gb_x n c j < lo j
    · exact br_t hl (h0 fun z => (z j (by omega)).1 hl)
    · by_cases hh : hi j < gb_x n c j
      · exact br_f hl ⟨i3, br_f (Int32.not_le.mpr hh) (h0 fun z => (z j (by omega)).2 hh)⟩
      · refine br_f hl ⟨i3, br_t (Int32.not_lt.mp hh) (nm_r (nI_1 j) (ih (j + 1) (by omega) ?_))⟩
        intro i hi'
        by_cases e : i = j
        · rw [e]; exact ⟨hl, hh⟩
        · exact hb i (by omega)
theorem gx_box {post : Int32 → Prop} (hn : n ≤ 4) (hc : c < 4096) (h1 : gb_box lo hi n (gb_x n c) → post 1) (h0 : ¬ gb_box lo hi n (gb_x n c) → post 0) : wpX_isInBox post (nI n, fr, st, bv, bc, ob, lo, hi, kd, rh, a) (nI c) := by
  unfold wpX_isInBox
  exact ⟨n + 1, gx_boxL hn hc h1 h0 n 0 (by omega) (fun i hi' => absurd hi' (Nat.not_lt_zero i))⟩
theorem gx_mr {post : Int32 → Prop} {r : Nat} (hn : n ≤ 4) (hc : c < 4096) (hr : r < 8) (hk : kd r = 1 ∨ kd r = 2 ∨ kd r = 3) (h1 : gb_row kd rh a n (gb_x n c) r → post 1) (h0 : ¬ gb_row kd rh a n (gb_x n c) r → post 0) : wpX_meetsRow post (nI n, fr, st, bv, bc, ob, lo, hi, kd, rh, a) (nI r) (nI c) := by
  have i2 : (nI r).toNatClampNeg = r := nI_clamp (by omega)
  have i3 : vp_in (nI r) 8 := vp_in_nI hr (by omega)
  unfold wpX_meetsRow
  dsimp only
  rw [i2]
  refine gx_rs hn hc hr ⟨i3, ?_⟩
  rcases hk with k1 | k1 | k1
  · have n2 : ¬ kd r = 2 := by rw [k1]; decide
    have n3 : ¬ kd r = 3 := by rw [k1]; decide
    by_cases h : rh r < gb_rs a n (gb_x n c) r
    · exact br_t k1 ⟨i3, br_t h (h0 fun z => absurd h (Int32.not_lt.mpr (z.1 k1)))⟩
    · exact br_t k1 ⟨i3, br_f h (h1 ⟨fun _ => Int32.not_lt.mp h, fun e => absurd e n2, fun e => absurd e n3⟩)⟩
  · have n1 : ¬ kd r = 1 := by rw [k1]; decide
    have n3 : ¬ kd r = 3 := by rw [k1]; decide
    by_cases h : gb_rs a n (gb_x n c) r < rh r
    · exact br_f n1 ⟨i3, br_t k1 ⟨i3, br_t h (h0 fun z => absurd h (Int32.not_lt.mpr (z.2.1 k1)))⟩⟩
    · exact br_f n1 ⟨i3, br_t k1 ⟨i3, br_f h (h1 ⟨fun e => absurd e n1, fun _ => Int32.not_lt.mp h, fun e => absurd e n3⟩)⟩⟩
  · have n1 : ¬ kd r = 1 := by rw [k1]; decide
    have n2 : ¬ kd r = 2 := by rw [k1]; decide
    by_cases h : gb_rs a n (gb_x n c) r = rh r
    · exact br_f n1 ⟨i3, br_f n2 ⟨i3, br_t h (h1 ⟨fun e => absurd e n1, fun e => absurd e n2, fun _ => h⟩)⟩⟩
    · exact br_f n1 ⟨i3, br_f n2 ⟨i3, br_f h (h0 fun z => h (z.2.2 k1))⟩⟩
theorem gx_marL {post : Int32 → Prop} (hn : n ≤ 4) (hc : c < 4096) (hR : R ≤ 8) (hk : ∀ r, r < R → kd r = 1 ∨ kd r = 2 ∨ kd r = 3) (h1 : gb_rows kd rh a n R (gb_x n c) → post 1) (h0 : ¬ gb_rows kd rh a n R (gb_x n c) → post 0) : ∀ d r, r + d = R → (∀ i, i < r → gb_row kd rh a n (gb_x n c) i) → wX_meetsAllRows_2 post (nI c) (nI n) (nI R) st bv bc ob lo hi kd rh a (d + 1) (nI r) := by
  intro d
  induction d with
  | zero =>
    intro r hr hb
    have e : r = R := by omega
    subst e
    exact br_t (nI_le (by omega) (by omega)) (h1 hb)
  | succ d ih =>
    intro r hr hb
    refine br_f (nI_ge (by omega) (by omega)) (gx_mr hn hc (by omega) (hk r (by omega)) (fun z => ?_) (fun z => ?_))
    · exact br_f (by decide) (nm_r (nI_1 r) (ih (r + 1) (by omega) (lt_s hb z)))
    · exact br_t rfl (h0 fun w => z (w r (by omega)))
theorem gx_mar {post : Int32 → Prop} (hn : n ≤ 4) (hc : c < 4096) (hR : R ≤ 8) (hk : ∀ r, r < R → kd r = 1 ∨ kd r = 2 ∨ kd r = 3) (h1 : gb_rows kd rh a n R (gb_x n c) → post 1) (h0 : ¬ gb_rows kd rh a n R (gb_x n c) → post 0) : wpX_meetsAllRows post (nI n, nI R, st, bv, bc, ob, lo, hi, kd, rh, a) (nI c) := by
  unfold wpX_meetsAllRows
  exact ⟨R + 1, gx_marL hn hc hR hk h1 h0 R 0 (by omega) (fun i hi' => absurd hi' (Nat.not_lt_zero i))⟩
theorem gx_keep {post : SX → Prop} {o : Option Nat} (hn : n ≤ 4) (hc : c < 4096) (h : post (nI n, fr, gb_st (gb_up (gb_V ob n) o c), gb_bv (gb_V ob n) (gb_up (gb_V ob n) o c), gb_bc (gb_up (gb_V ob n) o c), ob, lo, hi, kd, rh, a)) : wpX_keepIfBetter post (nI n, fr, gb_st o, gb_bv (gb_V ob n) o, gb_bc o, ob, lo, hi, kd, rh, a) (nI c) := by
  unfold wpX_keepIfBetter
  dsimp only
  refine gx_os hn hc ?_
  cases o with
  | none => exact br_f (show ¬ (2 : Int32) = 1 by decide) h
  | some b =>
    by_cases hv : gb_V ob n b < gb_V ob n c
    · have e : gb_up (gb_V ob n) (some b) c = some c := if_pos hv
      rw [e] at h
      exact br_t rfl (br_f (Int32.not_le.mpr hv) h)
    · have e : gb_up (gb_V ob n) (some b) c = some b := if_neg hv
      rw [e] at h
      exact br_t rfl (br_t (Int32.not_lt.mp hv) h)
theorem gx_solveL {post : Int32 → SX → Prop} {M : Nat} (hM : M ≤ 4096) (hn : n ≤ 4) (hR : R ≤ 8) (hk : ∀ r, r < R → kd r = 1 ∨ kd r = 2 ∨ kd r = 3)
    (hp : post (gb_st (gb_F (gb_P lo hi kd rh a n R) (gb_V ob n) M)) (nI n, nI R, gb_st (gb_F (gb_P lo hi kd rh a n R) (gb_V ob n) M), gb_bv (gb_V ob n) (gb_F (gb_P lo hi kd rh a n R) (gb_V ob n) M), gb_bc (gb_F (gb_P lo hi kd rh a n R) (gb_V ob n) M), ob, lo, hi, kd, rh, a)) :
    ∀ d c, c + d = M → wX_solve_26 post (nI M) (d + 1) (nI c) (nI n) (nI R) (gb_st (gb_F (gb_P lo hi kd rh a n R) (gb_V ob n) c)) (gb_bv (gb_V ob n) (gb_F (gb_P lo hi kd rh a n R) (gb_V ob n) c)) (gb_bc (gb_F (gb_P lo hi kd rh a n R) (gb_V ob n) c)) ob lo hi kd rh a := by
  intro d
  induction d with
  | zero =>
    intro c hc
    have e : c = M := by omega
    subst e
    exact br_t (nI_le (by omega) (by omega)) hp
  | succ d ih =>
    intro c hc
    have w := ih (c + 1) (by omega)
    refine br_f (nI_ge (by omega) (by omega)) (gx_box hn (by omega) (fun zb => ?_) (fun zb => ?_))
    · refine br_f (by decide) (gx_mar hn (by omega) hR hk (fun zr => ?_) (fun zr => ?_))
      · have e : gb_F (gb_P lo hi kd rh a n R) (gb_V ob n) (c + 1) = gb_up (gb_V ob n) (gb_F (gb_P lo hi kd rh a n R) (gb_V ob n) c) c := gb_Fy ⟨zb, zr⟩
        rw [e] at w
        exact br_f (by decide) (gx_keep hn (by omega) (nm_r (nI_1 c) w))
      · have e : gb_F (gb_P lo hi kd rh a n R) (gb_V ob n) (c + 1) = gb_F (gb_P lo hi kd rh a n R) (gb_V ob n) c := gb_Fn (fun z => zr z.2)
        rw [e] at w
        exact br_t rfl (nm_r (nI_1 c) w)
    · have e : gb_F (gb_P lo hi kd rh a n R) (gb_V ob n) (c + 1) = gb_F (gb_P lo hi kd rh a n R) (gb_V ob n) c := gb_Fn (fun z => zb z.1)
      rw [e] at w
      exact br_t rfl (nm_r (nI_1 c) w)
theorem gx_solve {post : Int32 → SX → Prop} (hn : n ≤ 4) (hR : R ≤ 8) (hk : ∀ r, r < R → kd r = 1 ∨ kd r = 2 ∨ kd r = 3)
    (hp : post (gb_st (gb_F (gb_P lo hi kd rh a n R) (gb_V ob n) (8 ^ n))) (nI n, nI R, gb_st (gb_F (gb_P lo hi kd rh a n R) (gb_V ob n) (8 ^ n)), gb_bv (gb_V ob n) (gb_F (gb_P lo hi kd rh a n R) (gb_V ob n) (8 ^ n)), gb_bc (gb_F (gb_P lo hi kd rh a n R) (gb_V ob n) (8 ^ n)), ob, lo, hi, kd, rh, a)) :
    wpX_solve post (nI n, nI R, st, bv, bc, ob, lo, hi, kd, rh, a) := by
  have h4 := gb_c4 n (by omega)
  have hc := gb_codes n (by omega)
  unfold wpX_solve
  dsimp only
  refine nm_r hc ⟨8 ^ n + 1, ?_⟩
  exact gx_solveL h4 hn hR hk hp (8 ^ n) 0 (Nat.zero_add _)
theorem gx_iniL {post : SX → Prop} {fn : Int32} (h : post (fn, fr, st, bv, bc, ob, lo, gb_fill hi 0 7 4, kd, rh, a)) : ∀ d j, j + d = 4 → wX_init_94 post fn fr st bv bc (d + 1) (nI j) ob lo (gb_fill hi 0 7 j) kd rh a := by
  intro d
  induction d with
  | zero =>
    intro j hj
    have e : j = 4 := by omega
    subst e
    exact br_t (nI_le (a := 4) (by omega) (by omega)) h
  | succ d ih =>
    intro j hj
    have i2 : (nI j).toNatClampNeg = j := nI_clamp (by omega)
    have e : upd (gb_fill hi 0 7 j) (nI j).toNatClampNeg 7 = gb_fill hi 0 7 (j + 1) := by
      rw [i2]
      show upd _ j 7 = upd _ (0 + j) 7
      rw [Nat.zero_add]
    exact br_f (nI_ge (b := 4) (by omega) (by omega)) ⟨vp_in_nI (by omega) (by omega), nm_r e (nm_r (nI_1 j) (ih (j + 1) (by omega)))⟩
theorem gx_ini {post : SX → Prop} {fn : Int32} (h : post (fn, fr, st, bv, bc, ob, lo, gb_fill hi 0 7 4, kd, rh, a)) : ∃ m, wX_init_94 post fn fr st bv bc m 0 ob lo hi kd rh a :=
  ⟨4 + 1, gx_iniL h 4 0 (by omega)⟩
theorem gx_clL {post : SX → Prop} {fn : Int32} {r : Nat} (hr : r < 8) (h : post (fn, fr, st, bv, bc, ob, lo, hi, kd, rh, gb_fill a (r * 4) 0 4)) : ∀ d j, j + d = 4 → wX_clearCoefs_2 post (nI r) fn fr st bv bc (d + 1) (nI j) ob lo hi kd rh (gb_fill a (r * 4) 0 j) := by
  intro d
  induction d with
  | zero =>
    intro j hj
    have e : j = 4 := by omega
    subst e
    exact br_t (nI_le (a := 4) (by omega) (by omega)) h
  | succ d ih =>
    intro j hj
    have i1 := gb_ix r j
    have i2 : (nI r * 4 + nI j).toNatClampNeg = r * 4 + j := by rw [i1]; exact nI_clamp (by omega)
    have i3 : vp_in (nI r * 4 + nI j) 32 := by rw [i1]; exact vp_in_nI (by omega) (by omega)
    have e : upd (gb_fill a (r * 4) 0 j) (nI r * 4 + nI j).toNatClampNeg 0 = gb_fill a (r * 4) 0 (j + 1) := by
      rw [i2]
      rfl
    exact br_f (nI_ge (b := 4) (by omega) (by omega)) ⟨i3, nm_r e (nm_r (nI_1 j) (ih (j + 1) (by omega)))⟩
theorem gx_cl {post : SX → Prop} {fn : Int32} {r : Nat} (hr : r < 8) (h : post (fn, fr, st, bv, bc, ob, lo, hi, kd, rh, gb_fill a (r * 4) 0 4)) : wpX_clearCoefs post (fn, fr, st, bv, bc, ob, lo, hi, kd, rh, a) (nI r) := by
  unfold wpX_clearCoefs
  exact ⟨4 + 1, gx_clL hr h 4 0 (by omega)⟩
theorem gx_isCoef {post : Int32 → Prop} {x : Int32} (h1 : ¬ x < -9 → ¬ 9 < x → post 1) (h0 : x < -9 ∨ 9 < x → post 0) : wpX_isCoef post x := by
  by_cases a1 : x < -9
  · exact br_t a1 (h0 (Or.inl a1))
  · by_cases a2 : 9 < x
    · exact br_f a1 (br_t a2 (h0 (Or.inr a2)))
    · exact br_f a1 (br_f a2 (h1 a1 a2))
theorem gx_isKind {post : Int32 → Prop} {x : Int32} (h1 : x = 1 ∨ x = 2 ∨ x = 3 → post 1) (h0 : ¬ (x = 1 ∨ x = 2 ∨ x = 3) → post 0) : wpX_isKind post x := by
  by_cases a1 : x = 1
  · exact br_t a1 (h1 (Or.inl a1))
  · by_cases a2 : x = 2
    · exact br_f a1 (br_t a2 (h1 (Or.inr (Or.inl a2))))
    · by_cases a3 : x = 3
      · exact br_f a1 (br_f a2 (br_t a3 (h1 (Or.inr (Or.inr a3)))))
      · exact br_f a1 (br_f a2 (br_f a3 (h0 fun z => z.elim a1 fun z => z.elim a2 a3)))
end
end
section
/-! Y: its private methods and its loops -/
def gb_fl (x : Int32) (P : Prop) : Prop := (x = 1 ∧ P) ∨ (x = 0 ∧ ¬ P)
theorem gb_fls {lo hi y : Nat → Int32} {n j : Nat} {x : Int32} (h : gb_fl x (gb_ks lo hi n y j)) (k : gb_k1 lo hi n y j) : gb_fl x (gb_ks lo hi n y (j + 1)) := by
  rcases h with ⟨e, h⟩ | ⟨e, h⟩
  · exact Or.inl ⟨e, lt_s h k⟩
  · exact Or.inr ⟨e, fun w => h fun i hi' => w i (by omega)⟩
theorem gb_fl0 {lo hi y : Nat → Int32} {n j : Nat} (k : ¬ gb_k1 lo hi n y j) : gb_fl 0 (gb_ks lo hi n y (j + 1)) :=
  Or.inr ⟨rfl, fun w => k (w j (by omega))⟩
theorem gb_ptk {k : Nat} {cur pt : Nat → Int32} (hp : ∀ i, i < 4 → pt i = cur i) (hc : ∀ i, i < 4 → cur i = gb_y k i) : gb_pt (some k) pt := by
  intro b hb j hj
  cases hb
  rw [hp j hj]
  exact hc j hj
section
variable {n R k : Nat} {fr st vl : Int32} {ob lo hi kd rh a cur pt : Nat → Int32}
theorem gy_rsL {post : Int32 → Prop} {r : Nat} (hn : n ≤ 4) (hr : r < 8) (h : post (gb_rs a n cur r)) : ∀ d j, j + d = n → wY_rowSum_4 post (nI r) (nI n) fr st vl ob lo hi kd rh a cur pt (d + 1) (gb_sum (fun j => a (r * 4 + j)) cur j) (nI j) := by
  intro d
  induction d with
  | zero =>
    intro j hj
    have e : j = n := by omega
    subst e
    exact br_t (nI_le (by omega) (by omega)) h
  | succ d ih =>
    intro j hj
    have i1 := gb_ix r j
    have i2 : (nI r * 4 + nI j).toNatClampNeg = r * 4 + j := by rw [i1]; exact nI_clamp (by omega)
    have i3 : vp_in (nI r * 4 + nI j) 32 := by rw [i1]; exact vp_in_nI (by omega) (by omega)
    have i4 : (nI j).toNatClampNeg = j := nI_clamp (by omega)
    have i5 : vp_in (nI j) 4 := vp_in_nI (by omega) (by omega)
    refine br_f (nI_ge (by omega) (by omega)) ⟨i3, i5, nm_r ?_ (nm_r (nI_1 j) (ih (j + 1) (by omega)))⟩
    rw [i2, i4]
    rfl
theorem gy_rs {post : Int32 → Prop} {r : Nat} (hn : n ≤ 4) (hr : r < 8) (h : post (gb_rs a n cur r)) : wpY_rowSum post (nI n, fr, st, vl, ob, lo, hi, kd, rh, a, cur, pt) (nI r) := by
  unfold wpY_rowSum
  exact ⟨n + 1, gy_rsL hn hr h n 0 (by omega)⟩
theorem gy_oaL {post : Int32 → Prop} (hn : n ≤ 4) (h : post (gb_sum ob cur n)) : ∀ d j, j + d = n → wY_objectiveAt_4 post (nI n) fr st vl ob lo hi kd rh a cur pt (d + 1) (gb_sum ob cur j) (nI j) := by
  intro d
  induction d with
  | zero =>
    intro j hj
    have e : j = n := by omega
    subst e
    exact br_t (nI_le (by omega) (by omega)) h
  | succ d ih =>
    intro j hj
    have i4 : (nI j).toNatClampNeg = j := nI_clamp (by omega)
    have i5 : vp_in (nI j) 4 := vp_in_nI (by omega) (by omega)
    refine br_f (nI_ge (by omega) (by omega)) ⟨i5, i5, nm_r ?_ (nm_r (nI_1 j) (ih (j + 1) (by omega)))⟩
    rw [i4]
    rfl
theorem gy_oa {post : Int32 → Prop} (hn : n ≤ 4) (h : post (gb_sum ob cur n)) : wpY_objectiveAt post (nI n, fr, st, vl, ob, lo, hi, kd, rh, a, cur, pt) := by
  unfold wpY_objectiveAt
  exact ⟨n + 1, gy_oaL hn h n 0 (by omega)⟩
theorem gy_60 {post J : Int32 → Prop} {r : Nat} {s fn : Int32} (hr : r < 8) (h1 : (kd r = 3 → s = rh r) → J (nI (r + 1))) (h0 : ¬ (kd r = 3 → s = rh r) → post 0) : wY_meetsRows_60 post J (nI r) s fn fr st vl ob lo hi kd rh a cur pt := by
  have i2 : (nI r).toNatClampNeg = r := nI_clamp (by omega)
  have i3 : vp_in (nI r) 8 := vp_in_nI hr (by omega)
  unfold wY_meetsRows_60
  rw [i2]
  refine ⟨i3, ?_⟩
  by_cases k : kd r = 3
  · by_cases e : s = rh r
    · exact br_t k ⟨i3, br_t e (nm_r (nI_1 r) (h1 fun _ => e))⟩
    · exact br_t k ⟨i3, br_f e (h0 fun z => e (z k))⟩
  · exact br_f k (nm_r (nI_1 r) (h1 fun z => absurd z k))
theorem gy_38 {post J : Int32 → Prop} {r : Nat} {s fn : Int32} (hr : r < 8) (h1 : (kd r = 2 → rh r ≤ s) → (kd r = 3 → s = rh r) → J (nI (r + 1))) (h0 : ¬ ((kd r = 2 → rh r ≤ s) ∧ (kd r = 3 → s = rh r)) → post 0) : wY_meetsRows_38 post J (nI r) s fn fr st vl ob lo hi kd rh a cur pt := by
  have i2 : (nI r).toNatClampNeg = r := nI_clamp (by omega)
  have i3 : vp_in (nI r) 8 := vp_in_nI hr (by omega)
  unfold wY_meetsRows_38
  rw [i2]
  refine ⟨i3, ?_⟩
  by_cases k : kd r = 2
  · by_cases e : rh r ≤ s
    · exact br_t k ⟨i3, br_t e (gy_60 hr (fun z => h1 (fun _ => e) z) (fun z => h0 fun w => z w.2))⟩
    · exact br_t k ⟨i3, br_f e (h0 fun w => e (w.1 k))⟩
  · exact br_f k (gy_60 hr (fun z => h1 (fun w => absurd w k) z) (fun z => h0 fun w => z w.2))
theorem gy_mrL {post : Int32 → Prop} (hn : n ≤ 4) (hR : R ≤ 8) (h1 : gb_rows kd rh a n R cur → post 1) (h0 : ¬ gb_rows kd rh a n R cur → post 0) : ∀ d r, r + d = R → (∀ i, i < r → gb_row kd rh a n cur i) → wY_meetsRows_2 post (nI n) (nI R) st vl ob lo hi kd rh a cur pt (d + 1) (nI r) := by
  intro d
  induction d with
  | zero =>
    intro r hr hb
    have e : r = R := by omega
    subst e
    exact br_t (nI_le (by omega) (by omega)) (h1 hb)
  | succ d ih =>
    intro r hr hb
    have hr8 : r < 8 := by omega
    have i2 : (nI r).toNatClampNeg = r := nI_clamp (by omega)
    have i3 : vp_in (nI r) 8 := vp_in_nI hr8 (by omega)
    have w0 : ¬ ((kd r = 2 → rh r ≤ gb_rs a n cur r) ∧ (kd r = 3 → gb_rs a n cur r = rh r)) → post 0 := fun z => h0 fun w => z (w r (by omega)).2
    refine br_f (nI_ge (by omega) (by omega)) (gy_rs hn hr8 ⟨i3, ?_⟩)
    rw [i2]
    by_cases k : kd r = 1
    · by_cases e : gb_rs a n cur r ≤ rh r
      · exact br_t k ⟨i3, br_t e (gy_38 hr8 (fun z2 z3 => ih (r + 1) (by omega) (lt_s hb ⟨fun _ => e, z2, z3⟩)) w0)⟩
      · exact br_t k ⟨i3, br_f e (h0 fun w => e ((w r (by omega)).1 k))⟩
    · exact br_f k (gy_38 hr8 (fun z2 z3 => ih (r + 1) (by omega) (lt_s hb ⟨fun w => absurd w k, z2, z3⟩)) w0)
theorem gy_mr {post : Int32 → Prop} (hn : n ≤ 4) (hR : R ≤ 8) (h1 : gb_rows kd rh a n R cur → post 1) (h0 : ¬ gb_rows kd rh a n R cur → post 0) : wpY_meetsRows post (nI n, nI R, st, vl, ob, lo, hi, kd, rh, a, cur, pt) := by
  unfold wpY_meetsRows
  exact ⟨R + 1, gy_mrL hn hR h1 h0 R 0 (by omega) (fun i hi' => absurd hi' (Nat.not_lt_zero i))⟩
end
end
section
/-! Y: solve -/
section
variable {n R k : Nat} {fr st vl : Int32} {ob lo hi kd rh a cur pt : Nat → Int32}
theorem gy_cp {post : Int32 → SY → Prop} {J : Int32 → Int32 → Int32 → (Nat → Int32) → (Nat → Int32) → (Nat → Int32) → (Nat → Int32) → (Nat → Int32) → (Nat → Int32) → (Nat → Int32) → (Nat → Int32) → Prop} {x1 x2 fn : Int32} (h : ∀ pt', (∀ i, i < 4 → pt' i = cur i) → J x1 x2 (nI (k + 1)) ob lo hi kd rh a cur pt') : ∀ d j, j + d = 4 → ∀ pt, (∀ i, i < j → pt i = cur i) → wY_solve_142 post J x1 x2 (nI k) fn fr st vl (d + 1) (nI j) ob lo hi kd rh a cur pt := by
  intro d
  induction d with
  | zero =>
    intro j hj pt hb
    have e : j = 4 := by omega
    subst e
    exact br_t (nI_le (a := 4) (by omega) (by omega)) (nm_r (nI_1 k) (h pt hb))
  | succ d ih =>
    intro j hj pt hb
    have i2 : (nI j).toNatClampNeg = j := nI_clamp (by omega)
    have i3 : vp_in (nI j) 4 := vp_in_nI (by omega) (by omega)
    have e : upd pt (nI j).toNatClampNeg (cur (nI j).toNatClampNeg) = upd pt j (cur j) := by rw [i2]
    have hb' : ∀ i, i < j + 1 → upd pt j (cur j) i = cur i := by
      intro i hi'
      by_cases q : i = j
      · rw [q, pk_us]
      · rw [pk_un q]
        exact hb i (by omega)
    exact br_f (nI_ge (b := 4) (by omega) (by omega)) ⟨i3, i3, nm_r e (nm_r (nI_1 j) (ih (j + 1) (by omega) _ hb'))⟩
theorem gy_z {post : Int32 → SY → Prop} {fn fs : Int32} (h : ∀ pt', post fs (fn, fr, fs, vl, ob, lo, hi, kd, rh, a, cur, pt')) : ∀ d j, j + d = 4 → ∀ pt, wY_solve_190 post fn fr fs vl (d + 1) (nI j) ob lo hi kd rh a cur pt := by
  intro d
  induction d with
  | zero =>
    intro j hj pt
    have e : j = 4 := by omega
    subst e
    exact br_t (nI_le (a := 4) (by omega) (by omega)) (h pt)
  | succ d ih =>
    intro j hj pt
    exact br_f (nI_ge (b := 4) (by omega) (by omega)) ⟨vp_in_nI (by omega) (by omega), nm_e (nm_r (nI_1 j) (ih (j + 1) (by omega) _))⟩
theorem gy_55 {post : Int32 → SY → Prop} {J6 : Int32 → Int32 → Int32 → (Nat → Int32) → (Nat → Int32) → (Nat → Int32) → (Nat → Int32) → (Nat → Int32) → (Nat → Int32) → (Nat → Int32) → (Nat → Int32) → Prop} {J19 : Int32 → Int32 → (Nat → Int32) → (Nat → Int32) → (Nat → Int32) → (Nat → Int32) → (Nat → Int32) → (Nat → Int32) → (Nat → Int32) → (Nat → Int32) → Prop} {x1 x2 x3 x4 D : Int32} {j : Nat} (hn : n ≤ 4) (hj : j < 4)
    (ha : (j < n → ¬ D < lo j ∧ ¬ hi j < D) → J19 x4 (nI (j + 1)) ob lo hi kd rh a (upd cur j D) pt) (hb : ¬ (j < n → ¬ D < lo j ∧ ¬ hi j < D) → J19 0 (nI (j + 1)) ob lo hi kd rh a (upd cur j D) pt) :
    wY_solve_55 post J6 J19 x1 x2 x3 x4 (nI j) D (nI n) fr st vl ob lo hi kd rh a cur pt := by
  have i2 : (nI j).toNatClampNeg = j := nI_clamp (by omega)
  have i3 : vp_in (nI j) 4 := vp_in_nI (by omega) (by omega)
  have e : upd cur (nI j).toNatClampNeg D = upd cur j D := by rw [i2]
  unfold wY_solve_55
  by_cases h : n ≤ j
  · exact br_t (nI_le h (by omega)) ⟨i3, nm_r e (nm_r (nI_1 j) (ha fun z => absurd z (by omega)))⟩
  · have hjn : j < n := by omega
    refine br_f (nI_ge hjn (by omega)) ⟨i3, ?_⟩
    rw [i2]
    by_cases q1 : D < lo j
    · exact br_t q1 ⟨i3, nm_r e (nm_r (nI_1 j) (hb fun z => (z hjn).1 q1))⟩
    · by_cases q2 : hi j < D
      · exact br_f q1 ⟨i3, br_f (Int32.not_le.mpr q2) ⟨i3, nm_r e (nm_r (nI_1 j) (hb fun z => (z hjn).2 q2))⟩⟩
      · exact br_f q1 ⟨i3, br_t (Int32.not_lt.mp q2) ⟨i3, nm_e (nm_r (nI_1 j) (ha fun _ => ⟨q1, q2⟩))⟩⟩
theorem gy_after {post : Int32 → SY → Prop} {J : Int32 → Int32 → Int32 → (Nat → Int32) → (Nat → Int32) → (Nat → Int32) → (Nat → Int32) → (Nat → Int32) → (Nat → Int32) → (Nat → Int32) → (Nat → Int32) → Prop} {o o' : Option Nat} {m : Nat} {x4 : Int32} (hn : n ≤ 4) (hR : R ≤ 8)
    (hy : gb_Q lo hi kd rh a n R k → o' = gb_up (gb_U ob n) o k) (hq : ¬ gb_Q lo hi kd rh a n R k → o' = o)
    (H : ∀ cur' pt', gb_pt o' pt' → J (gb_fd o') (gb_bv (gb_U ob n) o') (nI (k + 1)) ob lo hi kd rh a cur' pt')
    (hpt : gb_pt o pt) (hf : gb_fl x4 (gb_ks lo hi n (gb_y k) 4)) (hcur : ∀ i, i < 4 → cur i = gb_y k i) :
    wY_solve_19 post J (gb_fd o) (gb_bv (gb_U ob n) o) (nI k) (nI n) (nI R) st vl (m + 1) x4 (nI 4) ob lo hi kd rh a cur pt := by
  have h4 : (4 : Int32) ≤ nI 4 := nI_le (a := 4) (by omega) (by omega)
  have hcn : ∀ i, i < n → cur i = gb_y k i := fun i hi' => hcur i (by omega)
  have ev : gb_sum ob cur n = gb_U ob n k := gb_sumC hcn
  have hrw : gb_rows kd rh a n R cur ↔ gb_rows kd rh a n R (gb_y k) := gb_rowsC hcn
  rcases hf with ⟨rfl, hk⟩ | ⟨rfl, hk⟩
  · refine br_t h4 (br_f (by decide) (gy_mr hn hR (fun zr => ?_) (fun zr => ?_)))
    · have e := hy ⟨hk, hrw.mp zr⟩
      subst e
      refine br_f (by decide) (gy_oa hn ?_)
      rw [ev]
      cases o with
      | none => exact br_t rfl ⟨4 + 1, gy_cp (fun pt' hp => H cur pt' (gb_ptk hp hcur)) 4 0 (by omega) pt (fun i hi' => absurd hi' (Nat.not_lt_zero i))⟩
      | some b =>
        by_cases hv : gb_U ob n b < gb_U ob n k
        · have e2 : gb_up (gb_U ob n) (some b) k = some k := if_pos hv
          rw [e2] at H
          exact br_f (show ¬ (1 : Int32) = 0 by decide) (br_f (Int32.not_le.mpr hv) ⟨4 + 1, gy_cp (fun pt' hp => H cur pt' (gb_ptk hp hcur)) 4 0 (by omega) pt (fun i hi' => absurd hi' (Nat.not_lt_zero i))⟩)
        · have e2 : gb_up (gb_U ob n) (some b) k = some b := if_neg hv
          rw [e2] at H
          exact br_f (show ¬ (1 : Int32) = 0 by decide) (br_t (Int32.not_lt.mp hv) (nm_r (nI_1 k) (H cur pt hpt)))
    · have e := hq (fun z => zr (hrw.mpr z.2))
      subst e
      exact br_t rfl (nm_r (nI_1 k) (H cur pt hpt))
  · have e := hq (fun z => hk z.1)
    subst e
    exact br_t h4 (br_t rfl (nm_r (nI_1 k) (H cur pt hpt)))
theorem gy_in {post : Int32 → SY → Prop} {J : Int32 → Int32 → Int32 → (Nat → Int32) → (Nat → Int32) → (Nat → Int32) → (Nat → Int32) → (Nat → Int32) → (Nat → Int32) → (Nat → Int32) → (Nat → Int32) → Prop} {o o' : Option Nat} (hn : n ≤ 4) (hR : R ≤ 8) (hk4 : k < 4096)
    (hy : gb_Q lo hi kd rh a n R k → o' = gb_up (gb_U ob n) o k) (hq : ¬ gb_Q lo hi kd rh a n R k → o' = o)
    (H : ∀ cur' pt', gb_pt o' pt' → J (gb_fd o') (gb_bv (gb_U ob n) o') (nI (k + 1)) ob lo hi kd rh a cur' pt')
    (hpt : gb_pt o pt) : ∀ d j, j + d = 4 → ∀ x4 cur, gb_fl x4 (gb_ks lo hi n (gb_y k) j) → (∀ i, i < j → cur i = gb_y k i) →
    wY_solve_19 post J (gb_fd o) (gb_bv (gb_U ob n) o) (nI k) (nI n) (nI R) st vl (d + 1) x4 (nI j) ob lo hi kd rh a cur pt := by
  intro d
  induction d with
  | zero =>
    intro j hj x4 cur hf hcur
    have e : j = 4 := by omega
    subst e
    exact gy_after hn hR hy hq H hpt hf hcur
  | succ d ih =>
    intro j hj x4 cur hf hcur
    have hj4 : j < 4 := by omega
    have hc' : ∀ i, i < j + 1 → upd cur j (gb_y k j) i = gb_y k i := by
      intro i hi'
      by_cases q : i = j
      · rw [q, pk_us]
      · rw [pk_un q]
        exact hcur i (by omega)
    have K : ∀ y4, gb_fl y4 (gb_ks lo hi n (gb_y k) (j + 1)) → wY_solve_19 post J (gb_fd o) (gb_bv (gb_U ob n) o) (nI k) (nI n) (nI R) st vl (d + 1) y4 (nI (j + 1)) ob lo hi kd rh a (upd cur j (gb_y k j)) pt := fun y4 hy4 => ih (j + 1) (by omega) y4 _ hy4 hc'
    refine br_f (nI_ge (b := 4) (by omega) (by omega)) (nm_r (gb_digY (by omega) hj4) ?_)
    by_cases hjn : j < n
    · exact br_t (nI_lt hjn (by omega)) (gy_55 hn hj4 (fun z => K x4 (gb_fls hf ⟨fun h => absurd h (by omega), z⟩)) (fun z => K 0 (gb_fl0 fun w => z w.2)))
    · have hjn' : n ≤ j := by omega
      by_cases hD : gb_y k j = 0
      · exact br_f (nI_nlt hjn' (by omega)) (br_t hD (gy_55 hn hj4 (fun z => K x4 (gb_fls hf ⟨fun _ => hD, z⟩)) (fun z => K 0 (gb_fl0 fun w => z w.2))))
      · have hz : ¬ gb_k1 lo hi n (gb_y k) j := fun w => hD (w.1 hjn')
        exact br_f (nI_nlt hjn' (by omega)) (br_f hD (gy_55 hn hj4 (fun _ => K 0 (gb_fl0 hz)) (fun _ => K 0 (gb_fl0 hz))))
theorem gy_exit {post : Int32 → SY → Prop} {o : Option Nat} {U : Nat → Int32} {m : Nat} {fn : Int32} (hp : ∀ cur' pt', gb_pt o pt' → post (gb_st o) (fn, fr, gb_st o, gb_bv U o, ob, lo, hi, kd, rh, a, cur', pt')) (hpt : gb_pt o pt) : wY_solve_6 post fn fr st vl (m + 1) (gb_fd o) (gb_bv U o) (nI 4096) ob lo hi kd rh a cur pt := by
  have h4 : (4096 : Int32) ≤ nI 4096 := nI_le (a := 4096) (Nat.le_refl _) (by decide)
  cases o with
  | none => exact br_t h4 (br_t rfl ⟨4 + 1, gy_z (fun pt' => hp cur pt' (fun b hb => nomatch hb)) 4 0 (by omega) pt⟩)
  | some b => exact br_t h4 (br_f (show ¬ (1 : Int32) = 0 by decide) (hp cur pt hpt))
theorem gy_solveL {post : Int32 → SY → Prop} {M : Nat} (hM : M = 4096) (hn : n ≤ 4) (hR : R ≤ 8)
    (hp : ∀ cur' pt', gb_pt (gb_F (gb_Q lo hi kd rh a n R) (gb_U ob n) M) pt' → post (gb_st (gb_F (gb_Q lo hi kd rh a n R) (gb_U ob n) M)) (nI n, nI R, gb_st (gb_F (gb_Q lo hi kd rh a n R) (gb_U ob n) M), gb_bv (gb_U ob n) (gb_F (gb_Q lo hi kd rh a n R) (gb_U ob n) M), ob, lo, hi, kd, rh, a, cur', pt')) :
    ∀ d k, k + d = M → ∀ cur pt, gb_pt (gb_F (gb_Q lo hi kd rh a n R) (gb_U ob n) k) pt → wY_solve_6 post (nI n) (nI R) st vl (d + 1) (gb_fd (gb_F (gb_Q lo hi kd rh a n R) (gb_U ob n) k)) (gb_bv (gb_U ob n) (gb_F (gb_Q lo hi kd rh a n R) (gb_U ob n) k)) (nI k) ob lo hi kd rh a cur pt := by
  intro d
  induction d with
  | zero =>
    intro k hk cur pt hpt
    have e : M = k := by omega
    subst e
    have e2 : nI M = nI 4096 := congrArg nI hM
    rw [e2]
    exact gy_exit hp hpt
  | succ d ih =>
    intro k hk cur pt hpt
    have h4 : ¬ (4096 : Int32) ≤ nI k := nI_ge (b := 4096) (by omega) (by decide)
    exact br_f h4 ⟨4 + 1, gy_in (o' := gb_F (gb_Q lo hi kd rh a n R) (gb_U ob n) (k + 1)) hn hR (by omega) (fun z => gb_Fy z) (fun z => gb_Fn z) (fun cur' pt' hp' => ih (k + 1) (by omega) cur' pt' hp') hpt 4 0 (by omega) 1 cur (Or.inl ⟨rfl, fun i hi' => absurd hi' (Nat.not_lt_zero i)⟩) (fun i hi' => absurd hi' (Nat.not_lt_zero i))⟩
theorem gy_solve {post : Int32 → SY → Prop} {M : Nat} (hM : M = 4096) (hn : n ≤ 4) (hR : R ≤ 8)
    (hp : ∀ cur' pt', gb_pt (gb_F (gb_Q lo hi kd rh a n R) (gb_U ob n) M) pt' → post (gb_st (gb_F (gb_Q lo hi kd rh a n R) (gb_U ob n) M)) (nI n, nI R, gb_st (gb_F (gb_Q lo hi kd rh a n R) (gb_U ob n) M), gb_bv (gb_U ob n) (gb_F (gb_Q lo hi kd rh a n R) (gb_U ob n) M), ob, lo, hi, kd, rh, a, cur', pt')) :
    wpY_solve post (nI n, nI R, st, vl, ob, lo, hi, kd, rh, a, cur, pt) := by
  unfold wpY_solve
  exact ⟨M + 1, gy_solveL hM hn hR hp M 0 (Nat.zero_add _) cur pt (fun b hb => nomatch (show (none : Option Nat) = some b from hb))⟩
theorem gy_iniL {post : SY → Prop} {fn : Int32} (h : post (fn, fr, 0, vl, ob, lo, gb_fill hi 0 7 4, kd, rh, a, cur, pt)) : ∀ d j, j + d = 4 → wY_init_86 post fn fr st vl (d + 1) (nI j) ob lo (gb_fill hi 0 7 j) kd rh a cur pt := by
  intro d
  induction d with
  | zero =>
    intro j hj
    have e : j = 4 := by omega
    subst e
    exact br_t (nI_le (a := 4) (by omega) (by omega)) h
  | succ d ih =>
    intro j hj
    have i2 : (nI j).toNatClampNeg = j := nI_clamp (by omega)
    have e : upd (gb_fill hi 0 7 j) (nI j).toNatClampNeg 7 = gb_fill hi 0 7 (j + 1) := by
      rw [i2]
      show upd _ j 7 = upd _ (0 + j) 7
      rw [Nat.zero_add]
    exact br_f (nI_ge (b := 4) (by omega) (by omega)) ⟨vp_in_nI (by omega) (by omega), nm_r e (nm_r (nI_1 j) (ih (j + 1) (by omega)))⟩
theorem gy_ini {post : SY → Prop} {fn : Int32} (h : post (fn, fr, 0, vl, ob, lo, gb_fill hi 0 7 4, kd, rh, a, cur, pt)) : ∃ m, wY_init_86 post fn fr st vl m 0 ob lo hi kd rh a cur pt :=
  ⟨4 + 1, gy_iniL h 4 0 (by omega)⟩
theorem gy_clL {post : Int32 → SY → Prop} {fn : Int32} {r : Nat} (hr : r < 8) (h : post (nI r) (fn, nI (r + 1), 0, vl, ob, lo, hi, kd, rh, gb_fill a (r * 4) 0 4, cur, pt)) : ∀ d j, j + d = 4 → wY_addRow_64 post (nI r) fn (nI r) st vl (d + 1) (nI j) ob lo hi kd rh (gb_fill a (r * 4) 0 j) cur pt := by
  intro d
  induction d with
  | zero =>
    intro j hj
    have e : j = 4 := by omega
    subst e
    exact br_t (nI_le (a := 4) (by omega) (by omega)) (nm_r (nI_1 r) h)
  | succ d ih =>
    intro j hj
    have i1 := gb_ix r j
    have i2 : (nI r * 4 + nI j).toNatClampNeg = r * 4 + j := by rw [i1]; exact nI_clamp (by omega)
    have i3 : vp_in (nI r * 4 + nI j) 32 := by rw [i1]; exact vp_in_nI (by omega) (by omega)
    have e : upd (gb_fill a (r * 4) 0 j) (nI r * 4 + nI j).toNatClampNeg 0 = gb_fill a (r * 4) 0 (j + 1) := by
      rw [i2]
      rfl
    exact br_f (nI_ge (b := 4) (by omega) (by omega)) ⟨i3, nm_r e (nm_r (nI_1 j) (ih (j + 1) (by omega)))⟩
theorem gy_cl {post : Int32 → SY → Prop} {fn : Int32} {r : Nat} (hr : r < 8) (h : post (nI r) (fn, nI (r + 1), 0, vl, ob, lo, hi, kd, rh, gb_fill a (r * 4) 0 4, cur, pt)) : ∃ m, wY_addRow_64 post (nI r) fn (nI r) st vl m 0 ob lo hi kd rh a cur pt :=
  ⟨4 + 1, gy_clL hr h 4 0 (by omega)⟩
end
end
section
/-! the relation: the program's data the same on both sides; a solved state holds one best point -/
def i_Rel (k : Nat) (u : SX) (v : SY) : Prop :=
  ∃ (n R : Nat) (st bv bc vl : Int32) (ob lo hi kd rh a cur pt : Nat → Int32),
    u = (nI n, nI R, st, bv, bc, ob, lo, hi, kd, rh, a) ∧ v = (nI n, nI R, st, vl, ob, lo, hi, kd, rh, a, cur, pt) ∧
    1 ≤ n ∧ n ≤ 4 ∧ R ≤ 8 ∧ (∀ r, r < R → kd r = 1 ∨ kd r = 2 ∨ kd r = 3) ∧
    (st = 1 → vl = bv ∧ ∃ b : Nat, b < 4096 ∧ bc = nI b ∧ ∀ j, j < n → pt j = gb_x n b j)
theorem i_up {k : Nat} {u : SX} {v : SY} (h : i_Rel k u v) : i_Rel (k + 4) u v := h
theorem gr_mk {k n R : Nat} {bv bc vl : Int32} {ob lo hi kd rh a cur pt : Nat → Int32} (h1 : 1 ≤ n) (hn : n ≤ 4) (hR : R ≤ 8) (hk : ∀ r, r < R → kd r = 1 ∨ kd r = 2 ∨ kd r = 3) : i_Rel k (nI n, nI R, 0, bv, bc, ob, lo, hi, kd, rh, a) (nI n, nI R, 0, vl, ob, lo, hi, kd, rh, a, cur, pt) :=
  ⟨n, R, 0, bv, bc, vl, ob, lo, hi, kd, rh, a, cur, pt, rfl, rfl, h1, hn, hR, hk, fun z => absurd z (by decide)⟩
theorem gb_outl {A B : Prop} {v m : Int32} (h : v < 0 ∨ m ≤ v) (b : B) : (v < 0 → B) ∧ (¬ v < 0 → (v < m → A) ∧ (¬ v < m → B)) :=
  ⟨fun _ => b, fun h0 => ⟨fun h1 => (h.elim (fun z => absurd z h0) (fun z => absurd h1 (Int32.not_lt.mpr z))), fun _ => b⟩⟩
theorem gb_oute {A B : Prop} {v m : Int32} (h : v < 0 ∨ m ≤ v) (b : B) : (v < 0 → B) ∧ (¬ v < 0 → (m ≤ v → B) ∧ (¬ m ≤ v → A)) :=
  ⟨fun _ => b, fun h0 => ⟨fun _ => b, fun h1 => (h.elim (fun z => absurd z h0) (fun z => absurd z h1))⟩⟩
theorem gb_inl {A B : Prop} {j n : Nat} (hj : j < n) (hn : n ≤ 8) (x : A) : (nI j < 0 → B) ∧ (¬ nI j < 0 → (nI j < nI n → A) ∧ (¬ nI j < nI n → B)) :=
  br_f (nI_pos (by omega)) (br_t (nI_lt hj (by omega)) x)
theorem gb_ine {A B : Prop} {j n : Nat} (hj : j < n) (hn : n ≤ 8) (x : A) : (nI j < 0 → B) ∧ (¬ nI j < 0 → (nI n ≤ nI j → B) ∧ (¬ nI n ≤ nI j → A)) :=
  br_f (nI_pos (by omega)) (br_f (nI_ge hj (by omega)) x)
theorem gb_co {A B : Prop} {x l m : Int32} (h : x < l ∨ m < x) (b : B) : (x < l → B) ∧ (¬ x < l → (x ≤ m → A) ∧ (¬ x ≤ m → B)) :=
  ⟨fun _ => b, fun h0 => ⟨fun h1 => (h.elim (fun z => absurd z h0) (fun z => absurd h1 (Int32.not_le.mpr z))), fun _ => b⟩⟩
theorem gb_ky {A B : Prop} {x : Int32} (h : x = 1 ∨ x = 2 ∨ x = 3) (p : A) : (x = 1 → A) ∧ (¬ x = 1 → (x = 2 → A) ∧ (¬ x = 2 → (x = 3 → A) ∧ (¬ x = 3 → B))) :=
  ⟨fun _ => p, fun n1 => ⟨fun _ => p, fun n2 => ⟨fun _ => p, fun n3 => h.elim (fun z => absurd z n1) fun z => z.elim (fun z => absurd z n2) (fun z => absurd z n3)⟩⟩⟩
theorem gb_kn {A B : Prop} {x : Int32} (h : ¬ (x = 1 ∨ x = 2 ∨ x = 3)) (p : B) : (x = 1 → A) ∧ (¬ x = 1 → (x = 2 → A) ∧ (¬ x = 2 → (x = 3 → A) ∧ (¬ x = 3 → B))) :=
  br_f (fun z => h (Or.inl z)) (br_f (fun z => h (Or.inr (Or.inl z))) (br_f (fun z => h (Or.inr (Or.inr z))) p))
theorem gb_vi {r j : Nat} (hr : r < 8) (hj : j < 4) : vp_in (nI r * 4 + nI j) 32 := by
  rw [gb_ix]
  exact vp_in_nI (by omega) (by omega)
end
section
theorem i_vc0 (k0 : Int32) : wpX_init (fun u => wpY_init (fun v => i_Rel 1 u v) k0) k0 := by
  have e1 : (1 : Int32) = nI 1 := rfl
  have e4 : (4 : Int32) = nI 4 := rfl
  have M : ∀ n, 1 ≤ n → n ≤ 4 → i_Rel 1 (nI n, 0, 0, 0, 0, (fun _ => 0), (fun _ => 0), gb_fill (fun _ => 0) 0 7 4, (fun _ => 0), (fun _ => 0), (fun _ => 0)) (nI n, 0, 0, 0, (fun _ => 0), (fun _ => 0), gb_fill (fun _ => 0) 0 7 4, (fun _ => 0), (fun _ => 0), (fun _ => 0), (fun _ => 0), (fun _ => 0)) :=
    fun n h1 hn => gr_mk (R := 0) h1 hn (by omega) (fun r hr => absurd hr (Nat.not_lt_zero r))
  by_cases a1 : 1 ≤ k0
  · by_cases a4 : k0 ≤ 4
    · have hp : ¬ k0 < 0 := Int32.not_lt.mpr (Int32.le_trans (by decide) a1)
      obtain ⟨n, hn, e⟩ := nI_of2 (M := 4) (n := 4) (by decide) hp a4
      have h1 : 1 ≤ n := by
        rw [e, e1] at a1
        exact (nI_leI (by omega) (by omega)).mp a1
      have W := M n h1 hn
      rw [← e] at W
      exact br_t a1 (br_t a4 (gx_ini (br_t a1 (br_t a4 (gy_ini W)))))
    · exact br_t a1 (br_f a4 (gx_ini (br_t a1 (br_f a4 (gy_ini (M 4 (by omega) (by omega)))))))
  · exact br_f a1 (gx_ini (br_f a1 (br_t (by decide) (gy_ini (M 1 (by omega) (by omega))))))
theorem i_vc_numVars {k : Nat} {u : SX} {v : SY} (I : i_Rel k u v) (hk : k + 4 ≤ 2049) : wpX_numVars (fun r => wpY_numVars (fun r' => r' = r ∧ i_Rel (k + 4) u v) v) u := by
  have J := i_up I
  obtain ⟨n, R, st, bv, bc, vl, ob, lo, hi, kd, rh, a, cur, pt, rfl, rfl, h1, hn, hR, hk', hs⟩ := I
  exact ⟨rfl, J⟩
theorem i_vc_numRows {k : Nat} {u : SX} {v : SY} (I : i_Rel k u v) (hk : k + 4 ≤ 2049) : wpX_numRows (fun r => wpY_numRows (fun r' => r' = r ∧ i_Rel (k + 4) u v) v) u := by
  have J := i_up I
  obtain ⟨n, R, st, bv, bc, vl, ob, lo, hi, kd, rh, a, cur, pt, rfl, rfl, h1, hn, hR, hk', hs⟩ := I
  exact ⟨rfl, J⟩
theorem i_vc_setObjective {k : Nat} {u : SX} {v : SY} (I : i_Rel k u v) (hk : k + 4 ≤ 2049) (v1 : Int32) (v2 : Int32) : wpX_setObjective (fun r u' => wpY_setObjective (fun r' v' => r' = r ∧ i_Rel (k + 4) u' v') v v1 v2) u v1 v2 := by
  have J := i_up I
  obtain ⟨n, R, st, bv, bc, vl, ob, lo, hi, kd, rh, a, cur, pt, rfl, rfl, h1, hn, hR, hk', hs⟩ := I
  unfold wpX_setObjective
  dsimp only
  refine gx_isVar hn (fun j hj e => ?_) (fun h => ?_)
  · subst e
    have w : vp_in (nI j) 4 := vp_in_nI (by omega) (by omega)
    refine br_f (by decide) (gx_isCoef (fun c1 c2 => ?_) (fun c => ?_))
    · exact br_f (by decide) ⟨w, nm_e (gb_ine hj (by omega) (br_f c1 (br_t (Int32.not_lt.mp c2) ⟨w, nm_e ⟨rfl, gr_mk h1 hn hR hk'⟩⟩)))⟩
    · exact br_t rfl (gb_ine hj (by omega) (gb_co c ⟨rfl, J⟩))
  · exact br_t rfl (gb_oute h ⟨rfl, J⟩)
theorem i_vc_setBounds {k : Nat} {u : SX} {v : SY} (I : i_Rel k u v) (hk : k + 4 ≤ 2049) (v1 : Int32) (v2 : Int32) (v3 : Int32) : wpX_setBounds (fun r u' => wpY_setBounds (fun r' v' => r' = r ∧ i_Rel (k + 4) u' v') v v1 v2 v3) u v1 v2 v3 := by
  have J := i_up I
  obtain ⟨n, R, st, bv, bc, vl, ob, lo, hi, kd, rh, a, cur, pt, rfl, rfl, h1, hn, hR, hk', hs⟩ := I
  unfold wpX_setBounds
  dsimp only
  refine gx_isVar hn (fun j hj e => ?_) (fun h => ?_)
  · subst e
    have w : vp_in (nI j) 4 := vp_in_nI (by omega) (by omega)
    by_cases b1 : v2 < 0
    · exact br_f (by decide) (br_t b1 (gb_inl hj (by omega) (br_t b1 ⟨rfl, J⟩)))
    · by_cases b2 : v3 < v2
      · exact br_f (by decide) (br_f b1 (br_t b2 (gb_inl hj (by omega) (br_f b1 (br_t b2 ⟨rfl, J⟩)))))
      · by_cases b3 : v3 ≤ 7
        · exact br_f (by decide) (br_f b1 (br_f b2 (br_t b3 ⟨w, nm_e ⟨w, nm_e (gb_inl hj (by omega) (br_f b1 (br_f b2 (br_t b3 ⟨w, nm_e ⟨w, nm_e ⟨rfl, gr_mk h1 hn hR hk'⟩⟩⟩))))⟩⟩)))
        · exact br_f (by decide) (br_f b1 (br_f b2 (br_f b3 (gb_inl hj (by omega) (br_f b1 (br_f b2 (br_f b3 ⟨rfl, J⟩)))))))
  · exact br_t rfl (gb_outl h ⟨rfl, J⟩)
theorem i_vc_addRow {k : Nat} {u : SX} {v : SY} (I : i_Rel k u v) (hk : k + 4 ≤ 2049) (v1 : Int32) (v2 : Int32) : wpX_addRow (fun r u' => wpY_addRow (fun r' v' => r' = r ∧ i_Rel (k + 4) u' v') v v1 v2) u v1 v2 := by
  have J := i_up I
  obtain ⟨n, R, st, bv, bc, vl, ob, lo, hi, kd, rh, a, cur, pt, rfl, rfl, h1, hn, hR, hk', hs⟩ := I
  by_cases h8 : R < 8
  · have x8 : ¬ (8 : Int32) ≤ nI R := nI_ge (b := 8) h8 (by decide)
    have y8 : nI R < (8 : Int32) := nI_lt (b := 8) h8 (by decide)
    have i2 : (nI R).toNatClampNeg = R := nI_clamp (by omega)
    have w : vp_in (nI R) 8 := vp_in_nI h8 (by omega)
    have ek : upd kd (nI R).toNatClampNeg v1 = upd kd R v1 := by rw [i2]
    have er : upd rh (nI R).toNatClampNeg v2 = upd rh R v2 := by rw [i2]
    refine br_f x8 (gx_isKind (fun kk => ?_) (fun kk => ?_))
    · have hk2 : ∀ r, r < R + 1 → upd kd R v1 r = 1 ∨ upd kd R v1 r = 2 ∨ upd kd R v1 r = 3 := by
        intro r hr
        by_cases q : r = R
        · rw [q, pk_us]
          exact kk
        · rw [pk_un q]
          exact hk' r (by omega)
      by_cases b1 : v2 < -99
      · exact br_f (by decide) (br_t b1 (br_t y8 (gb_ky kk (br_t b1 ⟨rfl, J⟩))))
      · by_cases b2 : v2 ≤ 99
        · exact br_f (by decide) (br_f b1 (br_t b2 ⟨w, nm_r ek ⟨w, nm_r er (gx_cl h8 (nm_r (nI_1 R) (br_t y8 (gb_ky kk (br_f b1 (br_t b2 ⟨w, nm_r ek ⟨w, nm_r er (gy_cl h8 ⟨rfl, gr_mk h1 hn (by omega) hk2⟩)⟩⟩))))))⟩⟩))
        · exact br_f (by decide) (br_f b1 (br_f b2 (br_t y8 (gb_ky kk (br_f b1 (br_f b2 ⟨rfl, J⟩))))))
    · exact br_t rfl (br_t y8 (gb_kn kk ⟨rfl, J⟩))
  · have x8 : (8 : Int32) ≤ nI R := nI_le (a := 8) (by omega) (by omega)
    have y8 : ¬ nI R < (8 : Int32) := nI_nlt (b := 8) (by omega) (by omega)
    exact br_t x8 (br_f y8 ⟨rfl, J⟩)
theorem i_vc_setCoef {k : Nat} {u : SX} {v : SY} (I : i_Rel k u v) (hk : k + 4 ≤ 2049) (v1 : Int32) (v2 : Int32) (v3 : Int32) : wpX_setCoef (fun r u' => wpY_setCoef (fun r' v' => r' = r ∧ i_Rel (k + 4) u' v') v v1 v2 v3) u v1 v2 v3 := by
  have J := i_up I
  obtain ⟨n, R, st, bv, bc, vl, ob, lo, hi, kd, rh, a, cur, pt, rfl, rfl, h1, hn, hR, hk', hs⟩ := I
  unfold wpX_setCoef
  dsimp only
  refine gx_isRow hR (fun r hr e => ?_) (fun h => ?_)
  · subst e
    refine br_f (by decide) (gx_isVar hn (fun j hj e => ?_) (fun h => ?_))
    · subst e
      have w := gb_vi (r := r) (j := j) (by omega) (by omega)
      refine br_f (by decide) (gx_isCoef (fun c1 c2 => ?_) (fun c => ?_))
      · exact br_f (by decide) ⟨w, nm_e (gb_ine hr (by omega) (gb_ine hj (by omega) (br_f c1 (br_t (Int32.not_lt.mp c2) ⟨w, nm_e ⟨rfl, gr_mk h1 hn hR hk'⟩⟩))))⟩
      · exact br_t rfl (gb_ine hr (by omega) (gb_ine hj (by omega) (gb_co c ⟨rfl, J⟩)))
    · exact br_t rfl (gb_ine hr (by omega) (gb_oute h ⟨rfl, J⟩))
  · exact br_t rfl (gb_oute h ⟨rfl, J⟩)
theorem i_vc_removeLastRow {k : Nat} {u : SX} {v : SY} (I : i_Rel k u v) (hk : k + 4 ≤ 2049) : wpX_removeLastRow (fun r u' => wpY_removeLastRow (fun r' v' => r' = r ∧ i_Rel (k + 4) u' v') v) u := by
  have J := i_up I
  obtain ⟨n, R, st, bv, bc, vl, ob, lo, hi, kd, rh, a, cur, pt, rfl, rfl, h1, hn, hR, hk', hs⟩ := I
  cases R with
  | zero => exact br_f (show ¬ (0 : Int32) < 0 by decide) (br_t rfl ⟨rfl, J⟩)
  | succ R =>
    have p0 : (0 : Int32) < nI (R + 1) := nI_lt (a := 0) (by omega) (by omega)
    have p1 : ¬ nI (R + 1) = 0 := nI_ne0 (by omega) (by omega)
    exact br_t p0 (nm_r (nI_pred R) (br_f p1 (nm_r (nI_pred R) ⟨rfl, gr_mk h1 hn (by omega) (fun r hr => hk' r (by omega))⟩)))
end
section
theorem i_vc_value {k : Nat} {u : SX} {v : SY} (I : i_Rel k u v) (hk : k + 4 ≤ 2049) : wpX_value (fun r => wpY_value (fun r' => r' = r ∧ i_Rel (k + 4) u v) v) u := by
  have J := i_up I
  obtain ⟨n, R, st, bv, bc, vl, ob, lo, hi, kd, rh, a, cur, pt, rfl, rfl, h1, hn, hR, hk', hs⟩ := I
  by_cases hst : st = 1
  · exact br_t hst (br_t hst ⟨(hs hst).1, J⟩)
  · exact br_f hst (br_f hst ⟨rfl, J⟩)
theorem i_vc_point {k : Nat} {u : SX} {v : SY} (I : i_Rel k u v) (hk : k + 4 ≤ 2049) (v1 : Int32) : wpX_point (fun r => wpY_point (fun r' => r' = r ∧ i_Rel (k + 4) u v) v v1) u v1 := by
  have J := i_up I
  obtain ⟨n, R, st, bv, bc, vl, ob, lo, hi, kd, rh, a, cur, pt, rfl, rfl, h1, hn, hR, hk', hs⟩ := I
  by_cases hst : st = 1
  · obtain ⟨hv, b, hb, rfl, hp⟩ := hs hst
    refine br_t hst (gx_isVar hn (fun j hj e => ?_) (fun h => ?_))
    · subst e
      have i2 : (nI j).toNatClampNeg = j := nI_clamp (by omega)
      have q : pt (nI j).toNatClampNeg = gb_x n b j := by rw [i2]; exact hp j hj
      exact br_f (by decide) (gx_co hn hb hj (br_t hst (gb_inl hj (by omega) ⟨vp_in_nI (by omega) (by omega), q, J⟩)))
    · exact br_t rfl (br_t hst (gb_outl h ⟨rfl, J⟩))
  · exact br_f hst (br_f hst ⟨rfl, J⟩)
theorem i_vc_getCoef {k : Nat} {u : SX} {v : SY} (I : i_Rel k u v) (hk : k + 4 ≤ 2049) (v1 : Int32) (v2 : Int32) : wpX_getCoef (fun r => wpY_getCoef (fun r' => r' = r ∧ i_Rel (k + 4) u v) v v1 v2) u v1 v2 := by
  have J := i_up I
  obtain ⟨n, R, st, bv, bc, vl, ob, lo, hi, kd, rh, a, cur, pt, rfl, rfl, h1, hn, hR, hk', hs⟩ := I
  unfold wpX_getCoef
  dsimp only
  refine gx_isRow hR (fun r hr e => ?_) (fun h => ?_)
  · subst e
    refine br_f (by decide) (gx_isVar hn (fun j hj e => ?_) (fun h => ?_))
    · subst e
      have w := gb_vi (r := r) (j := j) (by omega) (by omega)
      exact br_f (by decide) ⟨w, gb_ine hr (by omega) (gb_inl hj (by omega) ⟨w, rfl, J⟩)⟩
    · exact br_t rfl (gb_ine hr (by omega) (gb_outl h ⟨rfl, J⟩))
  · exact br_t rfl (gb_oute h ⟨rfl, J⟩)
theorem i_vc_getRhs {k : Nat} {u : SX} {v : SY} (I : i_Rel k u v) (hk : k + 4 ≤ 2049) (v1 : Int32) : wpX_getRhs (fun r => wpY_getRhs (fun r' => r' = r ∧ i_Rel (k + 4) u v) v v1) u v1 := by
  have J := i_up I
  obtain ⟨n, R, st, bv, bc, vl, ob, lo, hi, kd, rh, a, cur, pt, rfl, rfl, h1, hn, hR, hk', hs⟩ := I
  unfold wpX_getRhs
  dsimp only
  refine gx_isRow hR (fun j hj e => ?_) (fun h => ?_)
  · subst e
    exact br_f (by decide) ⟨vp_in_nI (by omega) (by omega), gb_inl hj (by omega) ⟨vp_in_nI (by omega) (by omega), rfl, J⟩⟩
  · exact br_t rfl (gb_outl h ⟨rfl, J⟩)
theorem i_vc_getKind {k : Nat} {u : SX} {v : SY} (I : i_Rel k u v) (hk : k + 4 ≤ 2049) (v1 : Int32) : wpX_getKind (fun r => wpY_getKind (fun r' => r' = r ∧ i_Rel (k + 4) u v) v v1) u v1 := by
  have J := i_up I
  obtain ⟨n, R, st, bv, bc, vl, ob, lo, hi, kd, rh, a, cur, pt, rfl, rfl, h1, hn, hR, hk', hs⟩ := I
  unfold wpX_getKind
  dsimp only
  refine gx_isRow hR (fun j hj e => ?_) (fun h => ?_)
  · subst e
    exact br_f (by decide) ⟨vp_in_nI (by omega) (by omega), gb_inl hj (by omega) ⟨vp_in_nI (by omega) (by omega), rfl, J⟩⟩
  · exact br_t rfl (gb_outl h ⟨rfl, J⟩)
theorem i_vc_getObjective {k : Nat} {u : SX} {v : SY} (I : i_Rel k u v) (hk : k + 4 ≤ 2049) (v1 : Int32) : wpX_getObjective (fun r => wpY_getObjective (fun r' => r' = r ∧ i_Rel (k + 4) u v) v v1) u v1 := by
  have J := i_up I
  obtain ⟨n, R, st, bv, bc, vl, ob, lo, hi, kd, rh, a, cur, pt, rfl, rfl, h1, hn, hR, hk', hs⟩ := I
  unfold wpX_getObjective
  dsimp only
  refine gx_isVar hn (fun j hj e => ?_) (fun h => ?_)
  · subst e
    exact br_f (by decide) ⟨vp_in_nI (by omega) (by omega), gb_inl hj (by omega) ⟨vp_in_nI (by omega) (by omega), rfl, J⟩⟩
  · exact br_t rfl (gb_outl h ⟨rfl, J⟩)
theorem i_vc_getBound {k : Nat} {u : SX} {v : SY} (I : i_Rel k u v) (hk : k + 4 ≤ 2049) (v1 : Int32) (v2 : Int32) : wpX_getBound (fun r => wpY_getBound (fun r' => r' = r ∧ i_Rel (k + 4) u v) v v1 v2) u v1 v2 := by
  have J := i_up I
  obtain ⟨n, R, st, bv, bc, vl, ob, lo, hi, kd, rh, a, cur, pt, rfl, rfl, h1, hn, hR, hk', hs⟩ := I
  unfold wpX_getBound
  dsimp only
  refine gx_isVar hn (fun j hj e => ?_) (fun h => ?_)
  · subst e
    have w : vp_in (nI j) 4 := vp_in_nI (by omega) (by omega)
    by_cases b0 : v2 = 0
    · exact br_f (by decide) (br_t b0 ⟨w, gb_inl hj (by omega) (br_t b0 ⟨w, rfl, J⟩)⟩)
    · by_cases b1 : v2 = 1
      · exact br_f (by decide) (br_f b0 (br_t b1 ⟨w, gb_inl hj (by omega) (br_f b0 (br_t b1 ⟨w, rfl, J⟩))⟩))
      · exact br_f (by decide) (br_f b0 (br_f b1 (gb_inl hj (by omega) (br_f b0 (br_f b1 ⟨rfl, J⟩)))))
  · exact br_t rfl (gb_outl h ⟨rfl, J⟩)
theorem i_vc_solve {k : Nat} {u : SX} {v : SY} (I : i_Rel k u v) (hk : k + 4 ≤ 2049) : wpX_solve (fun r u' => wpY_solve (fun r' v' => r' = r ∧ i_Rel (k + 4) u' v') v) u := by
  have J := i_up I
  obtain ⟨n, R, st, bv, bc, vl, ob, lo, hi, kd, rh, a, cur, pt, rfl, rfl, h1, hn, hR, hk', hs⟩ := I
  refine gx_solve hn hR hk' ?_
  refine gy_solve (M := 4096) rfl hn hR (fun cur' pt' hp => ?_)
  have e := gb_FF (lo := lo) (hi := hi) (kd := kd) (rh := rh) (a := a) (ob := ob) (R := R) h1 hn
  rw [e] at hp ⊢
  cases ho : gb_F (gb_P lo hi kd rh a n R) (gb_V ob n) (8 ^ n) with
  | none => exact ⟨rfl, n, R, 2, 0, 0, 0, ob, lo, hi, kd, rh, a, cur', pt', rfl, rfl, h1, hn, hR, hk', fun z => absurd z (by decide)⟩
  | some b =>
    rw [ho] at hp
    have hb := gb_Flt ho
    have h4 := gb_c4 n (by omega)
    refine ⟨rfl, n, R, 1, gb_V ob n b, nI b, gb_U ob n (b * 8 ^ (4 - n)), ob, lo, hi, kd, rh, a, cur', pt', rfl, rfl, h1, hn, hR, hk', fun _ => ⟨gb_UV hn b, b, by omega, rfl, fun j hj => ?_⟩⟩
    exact (hp (b * 8 ^ (4 - n)) rfl j (by omega)).trans (gb_yx hn hj)
end
section
theorem i_vc_status {k : Nat} {u : SX} {v : SY} (I : i_Rel k u v) (hk : k + 4 ≤ 2049) : wpX_status (fun r => wpY_status (fun r' => r' = r ∧ i_Rel (k + 4) u v) v) u := by
  have J := i_up I
  obtain ⟨n, R, st, bv, bc, vl, ob, lo, hi, kd, rh, a, cur, pt, rfl, rfl, h1, hn, hR, hk', hs⟩ := I
  exact ⟨rfl, J⟩
end

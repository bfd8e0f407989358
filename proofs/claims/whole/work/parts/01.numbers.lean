theorem pk_us {f : Nat → Int32} {k : Nat} {x : Int32} : upd f k x k = x := if_pos rfl
theorem pk_un {f : Nat → Int32} {k j : Nat} {x : Int32} (h : j ≠ k) : upd f k x j = f j := if_neg h
theorem pk_mul (a b : Nat) : nI a * nI b = nI (a * b) := (Int32.ofNat_mul a b).symm
theorem pk_le {x y : Int32} {A B : Prop} (a b : Nat) (f : a ≤ b → A) (g : b < a → B) (hx : x = nI a := by rfl) (hy : y = nI b := by rfl) (ha : a < 2 ^ 31 := by omega) (hb : b < 2 ^ 31 := by omega) : (x ≤ y → A) ∧ (¬ x ≤ y → B) := by
  subst hx hy
  rw [nI_leI ha hb]
  exact ⟨f, fun z => g (by omega)⟩
theorem pk_lt {x y : Int32} {A B : Prop} (a b : Nat) (f : a < b → A) (g : b ≤ a → B) (hx : x = nI a := by rfl) (hy : y = nI b := by rfl) (ha : a < 2 ^ 31 := by omega) (hb : b < 2 ^ 31 := by omega) : (x < y → A) ∧ (¬ x < y → B) := by
  subst hx hy
  rw [nI_ltI ha hb]
  exact ⟨f, fun z => g (by omega)⟩
theorem pk_eq {x y : Int32} {A B : Prop} (a b : Nat) (f : a = b → A) (g : a ≠ b → B) (hx : x = nI a := by rfl) (hy : y = nI b := by rfl) (ha : a < 2 ^ 31 := by omega) (hb : b < 2 ^ 31 := by omega) : (x = y → A) ∧ (¬ x = y → B) := by
  subst hx hy
  rw [nI_eq ha hb]
  exact ⟨f, g⟩
theorem pk_in {x : Int32} (n N : Nat) (h : n < N) (hx : x = nI n := by rfl) (hN : N < 2 ^ 31 := by omega) : vp_in x N := by
  subst hx
  exact vp_in_nI h hN
theorem pk_cl {x : Int32} (n : Nat) (hx : x = nI n := by rfl) (h : n < 2 ^ 31 := by omega) : x.toNatClampNeg = n := by
  subst hx
  exact nI_clamp h
theorem pk_and (x : Int32) {m : Int32} (k : Nat) (hm : m.toBitVec.toNat = 2 ^ k - 1) : x &&& m = nI (x.toBitVec.toNat % 2 ^ k) := by
  apply Int32.toBitVec_inj.mp
  apply BitVec.eq_of_toNat_eq
  rw [Int32.toBitVec_and, BitVec.toNat_and, hm, Nat.and_two_pow_sub_one_eq_mod]
  show _ = (BitVec.ofNat 32 _).toNat
  rw [BitVec.toNat_ofNat]
  exact (Nat.mod_eq_of_lt (Nat.lt_of_le_of_lt (Nat.mod_le _ _) x.toBitVec.isLt)).symm
theorem pk_andE (x : Int32) {m : Int32} (k : Nat) (hm : m.toBitVec.toNat = 2 ^ k - 1) : ∃ j : Nat, j < 2 ^ k ∧ x &&& m = nI j := ⟨_, Nat.mod_lt _ (Nat.two_pow_pos k), pk_and x k hm⟩
/-! numbers: a bound on an int, sums and products below it -/
theorem wq_z : (0 : Int32).toInt = 0 := by decide
theorem wq_bm {x : Int} (h : x.natAbs < 2 ^ 31) : x.bmod (2 ^ 32) = x := Int.bmod_eq_of_le (by omega) (by omega)
def wq_M (m : Nat) (x : Int32) : Prop := x.toInt.natAbs ≤ m
theorem wq_sub {m n : Nat} {x y : Int32} (hx : wq_M m x) (hy : wq_M n y) (h : m + n < 2 ^ 31) : (x - y).toInt = x.toInt - y.toInt ∧ wq_M (m + n) (x - y) := by
  unfold wq_M at *
  have e : (x - y).toInt = x.toInt - y.toInt := by
    rw [Int32.toInt_sub]
    exact wq_bm (by omega)
  exact ⟨e, by rw [e]; omega⟩
theorem wq_add {m n : Nat} {x y : Int32} (hx : wq_M m x) (hy : wq_M n y) (h : m + n < 2 ^ 31) : (x + y).toInt = x.toInt + y.toInt ∧ wq_M (m + n) (x + y) := by
  unfold wq_M at *
  have e : (x + y).toInt = x.toInt + y.toInt := by
    rw [Int32.toInt_add]
    exact wq_bm (by omega)
  exact ⟨e, by rw [e]; omega⟩
theorem wq_neg {m : Nat} {x : Int32} (hx : wq_M m x) (h : m < 2 ^ 31) : (-x).toInt = -x.toInt ∧ wq_M m (-x) := by
  unfold wq_M at *
  have e : (-x).toInt = -x.toInt := by
    rw [Int32.toInt_neg]
    exact wq_bm (by omega)
  exact ⟨e, by rw [e]; omega⟩
theorem wq_mul {m n : Nat} {x y : Int32} (hx : wq_M m x) (hy : wq_M n y) (h : m * n < 2 ^ 31) : (x * y).toInt = x.toInt * y.toInt ∧ wq_M (m * n) (x * y) := by
  unfold wq_M at *
  have b : (x.toInt * y.toInt).natAbs ≤ m * n := by
    rw [Int.natAbs_mul]
    exact Nat.mul_le_mul hx hy
  have e : (x * y).toInt = x.toInt * y.toInt := by
    rw [Int32.toInt_mul]
    exact wq_bm (by omega)
  exact ⟨e, by rw [e]; exact b⟩
/-- x*y - z*w within its bound -/
theorem wq_det {m n : Nat} {x y z w : Int32} (hx : wq_M m x) (hy : wq_M n y) (hz : wq_M m z) (hw : wq_M n w) (h : m * n + m * n < 2 ^ 31) : wq_M (m * n + m * n) (x * y - z * w) :=
  (wq_sub (wq_mul hx hy (by omega)).2 (wq_mul hz hw (by omega)).2 h).2
/-- the two are not strictly on one side of 0 -/
def wq_one (p q : Int32) : Prop := ¬ (0 < p ∧ 0 < q) ∧ ¬ (p < 0 ∧ q < 0)
/-! the hit of a wall (a, b) .. (c, d) and a ray (dx, dy) from (vx, vy) -/
def wq_t (a b c d vx vy : Int32) : Int32 := (a - vx) * (d - b) - (b - vy) * (c - a)
def wq_b (a b c d dx dy : Int32) : Int32 := dx * (d - b) - dy * (c - a)
def wq_a (a b vx vy dx dy : Int32) : Int32 := (a - vx) * dy - (b - vy) * dx
def wq_T (a b c d vx vy dx dy : Int32) : Int32 := if 0 ≤ wq_b a b c d dx dy then wq_t a b c d vx vy else - wq_t a b c d vx vy
def wq_B (a b c d dx dy : Int32) : Int32 := if 0 ≤ wq_b a b c d dx dy then wq_b a b c d dx dy else - wq_b a b c d dx dy
def wq_A (a b c d vx vy dx dy : Int32) : Int32 := if 0 ≤ wq_b a b c d dx dy then wq_a a b vx vy dx dy else - wq_a a b vx vy dx dy
def wq_H (a b c d vx vy dx dy : Int32) : Prop := 0 < wq_B a b c d dx dy ∧ 0 < wq_T a b c d vx vy dx dy ∧ 0 ≤ wq_A a b c d vx vy dx dy ∧ wq_A a b c d vx vy dx dy ≤ wq_B a b c d dx dy
def wq_D (a b c d vx vy dx dy : Int32) : Prop := (wq_M 14 a ∧ wq_M 14 b ∧ wq_M 14 c ∧ wq_M 14 d) ∧ (wq_M 14 vx ∧ wq_M 14 vy) ∧ wq_M 16 dx ∧ wq_M 16 dy
theorem wq_bB {a b c d vx vy dx dy : Int32} (h : wq_D a b c d vx vy dx dy) : wq_M 896 (wq_b a b c d dx dy) := by
  obtain ⟨⟨ha, hb, hc, hd⟩, ⟨hv, hw⟩, hx, hy⟩ := h
  exact wq_det hx (wq_sub hd hb (by decide)).2 hy (wq_sub hc ha (by decide)).2 (by decide)
theorem wq_bT {a b c d vx vy dx dy : Int32} (h : wq_D a b c d vx vy dx dy) : wq_M 1568 (wq_t a b c d vx vy) := by
  obtain ⟨⟨ha, hb, hc, hd⟩, ⟨hv, hw⟩, hx, hy⟩ := h
  exact wq_det (wq_sub ha hv (by decide)).2 (wq_sub hd hb (by decide)).2 (wq_sub hb hw (by decide)).2 (wq_sub hc ha (by decide)).2 (by decide)
theorem wq_bS {a b c d vx vy dx dy : Int32} (h : wq_D a b c d vx vy dx dy) : wq_M 896 (dx * (b - vy) - dy * (a - vx)) := by
  obtain ⟨⟨ha, hb, hc, hd⟩, ⟨hv, hw⟩, hx, hy⟩ := h
  exact wq_det hx (wq_sub hb hw (by decide)).2 hy (wq_sub ha hv (by decide)).2 (by decide)
/-- the ends' sides by the first one's side and the bottom -/
theorem wq_sides {a b c d vx vy dx dy : Int32} (h : wq_D a b c d vx vy dx dy) : (wq_a a b vx vy dx dy).toInt = - (dx * (b - vy) - dy * (a - vx)).toInt ∧ (dx * (d - vy) - dy * (c - vx)).toInt = (dx * (b - vy) - dy * (a - vx)).toInt + (wq_b a b c d dx dy).toInt ∧ (- wq_a a b vx vy dx dy).toInt = (dx * (b - vy) - dy * (a - vx)).toInt := by
  have e1 : wq_a a b vx vy dx dy = - (dx * (b - vy) - dy * (a - vx)) := by
    unfold wq_a
    grind
  have e2 : dx * (d - vy) - dy * (c - vx) = (dx * (b - vy) - dy * (a - vx)) + wq_b a b c d dx dy := by
    unfold wq_b
    grind
  have e3 : - wq_a a b vx vy dx dy = dx * (b - vy) - dy * (a - vx) := by
    unfold wq_a
    grind
  refine ⟨?_, ?_, ?_⟩
  · rw [e1]
    exact (wq_neg (wq_bS h) (by decide)).1
  · rw [e2]
    exact (wq_add (wq_bS h) (wq_bB h) (by decide)).1
  · rw [e3]
theorem wq_ge {a b c d vx vy dx dy : Int32} (h : wq_D a b c d vx vy dx dy) (p : 0 ≤ wq_b a b c d dx dy) : wq_H a b c d vx vy dx dy ↔ (0 < wq_t a b c d vx vy ∧ 0 < wq_b a b c d dx dy ∧ wq_one (dx * (b - vy) - dy * (a - vx)) (dx * (d - vy) - dy * (c - vx))) := by
  obtain ⟨e1, e2, e3⟩ := wq_sides h
  unfold wq_H wq_T wq_B wq_A wq_one
  rw [if_pos p, if_pos p, if_pos p]
  simp only [Int32.lt_iff_toInt_lt, Int32.le_iff_toInt_le, wq_z] at *
  rw [e1, e2]
  generalize (dx * (b - vy) - dy * (a - vx)).toInt = S at *
  generalize (wq_b a b c d dx dy).toInt = B at *
  omega
theorem wq_nge {a b c d vx vy dx dy : Int32} (h : wq_D a b c d vx vy dx dy) (p : ¬ 0 ≤ wq_b a b c d dx dy) : wq_H a b c d vx vy dx dy ↔ (0 < - wq_t a b c d vx vy ∧ 0 < - wq_b a b c d dx dy ∧ wq_one (dx * (b - vy) - dy * (a - vx)) (dx * (d - vy) - dy * (c - vx))) := by
  obtain ⟨e1, e2, e3⟩ := wq_sides h
  have e4 := (wq_neg (wq_bB h) (by decide)).1
  unfold wq_H wq_T wq_B wq_A wq_one
  rw [if_neg p, if_neg p, if_neg p]
  simp only [Int32.lt_iff_toInt_lt, Int32.le_iff_toInt_le, wq_z] at *
  rw [e3, e2, e4]
  generalize (dx * (b - vy) - dy * (a - vx)).toInt = S at *
  generalize (wq_b a b c d dx dy).toInt = B at *
  omega
/-- the depth: the signs as they came, or both made positive -/
theorem wq_quot {a b c d vx vy dx dy : Int32} (h : wq_D a b c d vx vy dx dy) : (1024 * wq_t a b c d vx vy) / wq_b a b c d dx dy = (1024 * wq_T a b c d vx vy dx dy) / wq_B a b c d dx dy := by
  unfold wq_T wq_B
  by_cases p : 0 ≤ wq_b a b c d dx dy
  · rw [if_pos p, if_pos p]
  · rw [if_neg p, if_neg p]
    have hT := wq_bT h
    have hB := wq_bB h
    have k : wq_M 1024 (1024 : Int32) := by
      unfold wq_M
      decide
    apply Int32.toInt_inj.mp
    rw [Int32.toInt_div, Int32.toInt_div, (wq_mul k hT (by decide)).1, (wq_mul k (wq_neg hT (by decide)).2 (by decide)).1, (wq_neg hT (by decide)).1, (wq_neg hB (by decide)).1, Int.mul_neg, Int.neg_tdiv, Int.tdiv_neg, Int.neg_neg]
/-- what makes wall i the nearest so far -/
def wq_K (H : Prop) (x5 x6 x7 T B : Int32) : Prop := H ∧ (x5 = (-4) ∨ ¬ (x6 * B) ≤ (T * x7))

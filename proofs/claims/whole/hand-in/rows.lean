section
theorem pk_us {f : Nat → Int32} {k : Nat} {x : Int32} : upd f k x k = x := if_pos rfl
theorem pk_un {f : Nat → Int32} {k j : Nat} {x : Int32} (h : j ≠ k) : upd f k x j = f j := if_neg h
theorem pk_mul (a b : Nat) : nI a * nI b = nI (a * b) := (Int32.ofNat_mul a b).symm
theorem pk_le {x y : Int32} {A B : Prop} (a b : Nat) (f : a ≤ b → A) (g : b < a → B) (hx : x = nI a := by rfl) (hy : y = nI b := by rfl) (ha : a < 2 ^ 31 := by omega) (hb : b < 2 ^ 31 := by omega) : (x ≤ y → A) ∧ (¬ x ≤ y → B) := by
  subst hx hy
  rw [nI_leI ha hb]
  exact ⟨f, fun z => g (by omega)⟩
theorem pk_lt {x y : Int32} {A B : Prop} (a b : Nat) (f : a < b → A) (g : b ≤ a → B) (hx : x = nI a := by rfl) (hy : y = nI b := by rfl) (ha : a < 2 ^ 31 := by omega) (hb : b < 2 ^ 31 := by omega) : (x < y → A) ∧ (¬ x < y → B) := by
  subst hx hy
  rw [nI_ltI ha hb]
  exact ⟨f, fun z => g (by omega)⟩
theorem pk_eq {x y : Int32} {A B : Prop} (a b : Nat) (f : a = b → A) (g : a ≠ b → B) (hx : x = nI a := by rfl) (hy : y = nI b := by rfl) (ha : a < 2 ^ 31 := by omega) (hb : b < 2 ^ 31 := by omega) : (x = y → A) ∧ (¬ x = y → B) := by
  subst hx hy
  rw [nI_eq ha hb]
  exact ⟨f, g⟩
theorem pk_in {x : Int32} (n N : Nat) (h : n < N) (hx : x = nI n := by rfl) (hN : N < 2 ^ 31 := by omega) : vp_in x N := by
  subst hx
  exact vp_in_nI h hN
theorem pk_cl {x : Int32} (n : Nat) (hx : x = nI n := by rfl) (h : n < 2 ^ 31 := by omega) : x.toNatClampNeg = n := by
  subst hx
  exact nI_clamp h
theorem pk_and (x : Int32) {m : Int32} (k : Nat) (hm : m.toBitVec.toNat = 2 ^ k - 1) : x &&& m = nI (x.toBitVec.toNat % 2 ^ k) := by
  apply Int32.toBitVec_inj.mp
  apply BitVec.eq_of_toNat_eq
  rw [Int32.toBitVec_and, BitVec.toNat_and, hm, Nat.and_two_pow_sub_one_eq_mod]
  show _ = (BitVec.ofNat 32 _).toNat
  rw [BitVec.toNat_ofNat]
  exact (Nat.mod_eq_of_lt (Nat.lt_of_le_of_lt (Nat.mod_le _ _) x.toBitVec.isLt)).symm
theorem pk_andE (x : Int32) {m : Int32} (k : Nat) (hm : m.toBitVec.toNat = 2 ^ k - 1) : ∃ j : Nat, j < 2 ^ k ∧ x &&& m = nI j := ⟨_, Nat.mod_lt _ (Nat.two_pow_pos k), pk_and x k hm⟩
/-! numbers: a bound on an int, sums and products below it -/
theorem wq_z : (0 : Int32).toInt = 0 := by decide
theorem wq_bm {x : Int} (h : x.natAbs < 2 ^ 31) : x.bmod (2 ^ 32) = x := Int.bmod_eq_of_le (by omega) (by omega)
def wq_M (m : Nat) (x : Int32) : Prop := x.toInt.natAbs ≤ m
theorem wq_sub {m n : Nat} {x y : Int32} (hx : wq_M m x) (hy : wq_M n y) (h : m + n < 2 ^ 31) : (x - y).toInt = x.toInt - y.toInt ∧ wq_M (m + n) (x - y) := by
  unfold wq_M at *
  have e : (x - y).toInt = x.toInt - y.toInt := by
    rw [Int32.toInt_sub]
    exact wq_bm (by omega)
  exact ⟨e, by rw [e]; omega⟩
theorem wq_add {m n : Nat} {x y : Int32} (hx : wq_M m x) (hy : wq_M n y) (h : m + n < 2 ^ 31) : (x + y).toInt = x.toInt + y.toInt ∧ wq_M (m + n) (x + y) := by
  unfold wq_M at *
  have e : (x + y).toInt = x.toInt + y.toInt := by
    rw [Int32.toInt_add]
    exact wq_bm (by omega)
  exact ⟨e, by rw [e]; omega⟩
theorem wq_neg {m : Nat} {x : Int32} (hx : wq_M m x) (h : m < 2 ^ 31) : (-x).toInt = -x.toInt ∧ wq_M m (-x) := by
  unfold wq_M at *
  have e : (-x).toInt = -x.toInt := by
    rw [Int32.toInt_neg]
    exact wq_bm (by omega)
  exact ⟨e, by rw [e]; omega⟩
theorem wq_mul {m n : Nat} {x y : Int32} (hx : wq_M m x) (hy : wq_M n y) (h : m * n < 2 ^ 31) : (x * y).toInt = x.toInt * y.toInt ∧ wq_M (m * n) (x * y) := by
  unfold wq_M at *
  have b : (x.toInt * y.toInt).natAbs ≤ m * n := by
    rw [Int.natAbs_mul]
    exact Nat.mul_le_mul hx hy
  have e : (x * y).toInt = x.toInt * y.toInt := by
    rw [Int32.toInt_mul]
    exact wq_bm (by omega)
  exact ⟨e, by rw [e]; exact b⟩
/-- x*y - z*w within its bound -/
theorem wq_det {m n : Nat} {x y z w : Int32} (hx : wq_M m x) (hy : wq_M n y) (hz : wq_M m z) (hw : wq_M n w) (h : m * n + m * n < 2 ^ 31) : wq_M (m * n + m * n) (x * y - z * w) :=
  (wq_sub (wq_mul hx hy (by omega)).2 (wq_mul hz hw (by omega)).2 h).2
/-- the two are not strictly on one side of 0 -/
def wq_one (p q : Int32) : Prop := ¬ (0 < p ∧ 0 < q) ∧ ¬ (p < 0 ∧ q < 0)
/-! the hit of a wall (a, b) .. (c, d) and a ray (dx, dy) from (vx, vy) -/
def wq_t (a b c d vx vy : Int32) : Int32 := (a - vx) * (d - b) - (b - vy) * (c - a)
def wq_b (a b c d dx dy : Int32) : Int32 := dx * (d - b) - dy * (c - a)
def wq_a (a b vx vy dx dy : Int32) : Int32 := (a - vx) * dy - (b - vy) * dx
def wq_T (a b c d vx vy dx dy : Int32) : Int32 := if 0 ≤ wq_b a b c d dx dy then wq_t a b c d vx vy else - wq_t a b c d vx vy
def wq_B (a b c d dx dy : Int32) : Int32 := if 0 ≤ wq_b a b c d dx dy then wq_b a b c d dx dy else - wq_b a b c d dx dy
def wq_A (a b c d vx vy dx dy : Int32) : Int32 := if 0 ≤ wq_b a b c d dx dy then wq_a a b vx vy dx dy else - wq_a a b vx vy dx dy
def wq_H (a b c d vx vy dx dy : Int32) : Prop := 0 < wq_B a b c d dx dy ∧ 0 < wq_T a b c d vx vy dx dy ∧ 0 ≤ wq_A a b c d vx vy dx dy ∧ wq_A a b c d vx vy dx dy ≤ wq_B a b c d dx dy
def wq_D (a b c d vx vy dx dy : Int32) : Prop := (wq_M 14 a ∧ wq_M 14 b ∧ wq_M 14 c ∧ wq_M 14 d) ∧ (wq_M 14 vx ∧ wq_M 14 vy) ∧ wq_M 16 dx ∧ wq_M 16 dy
theorem wq_bB {a b c d vx vy dx dy : Int32} (h : wq_D a b c d vx vy dx dy) : wq_M 896 (wq_b a b c d dx dy) := by
  obtain ⟨⟨ha, hb, hc, hd⟩, ⟨hv, hw⟩, hx, hy⟩ := h
  exact wq_det hx (wq_sub hd hb (by decide)).2 hy (wq_sub hc ha (by decide)).2 (by decide)
theorem wq_bT {a b c d vx vy dx dy : Int32} (h : wq_D a b c d vx vy dx dy) : wq_M 1568 (wq_t a b c d vx vy) := by
  obtain ⟨⟨ha, hb, hc, hd⟩, ⟨hv, hw⟩, hx, hy⟩ := h
  exact wq_det (wq_sub ha hv (by decide)).2 (wq_sub hd hb (by decide)).2 (wq_sub hb hw (by decide)).2 (wq_sub hc ha (by decide)).2 (by decide)
theorem wq_bS {a b c d vx vy dx dy : Int32} (h : wq_D a b c d vx vy dx dy) : wq_M 896 (dx * (b - vy) - dy * (a - vx)) := by
  obtain ⟨⟨ha, hb, hc, hd⟩, ⟨hv, hw⟩, hx, hy⟩ := h
  exact wq_det hx (wq_sub hb hw (by decide)).2 hy (wq_sub ha hv (by decide)).2 (by decide)
/-- the ends' sides by the first one's side and the bottom -/
theorem wq_sides {a b c d vx vy dx dy : Int32} (h : wq_D a b c d vx vy dx dy) : (wq_a a b vx vy dx dy).toInt = - (dx * (b - vy) - dy * (a - vx)).toInt ∧ (dx * (d - vy) - dy * (c - vx)).toInt = (dx * (b - vy) - dy * (a - vx)).toInt + (wq_b a b c d dx dy).toInt ∧ (- wq_a a b vx vy dx dy).toInt = (dx * (b - vy) - dy * (a - vx)).toInt := by
  have e1 : wq_a a b vx vy dx dy = - (dx * (b - vy) - dy * (a - vx)) := by
    unfold wq_a
    grind
  have e2 : dx * (d - vy) - dy * (c - vx) = (dx * (b - vy) - dy * (a - vx)) + wq_b a b c d dx dy := by
    unfold wq_b
    grind
  have e3 : - wq_a a b vx vy dx dy = dx * (b - vy) - dy * (a - vx) := by
    unfold wq_a
    grind
  refine ⟨?_, ?_, ?_⟩
  · rw [e1]
    exact (wq_neg (wq_bS h) (by decide)).1
  · rw [e2]
    exact (wq_add (wq_bS h) (wq_bB h) (by decide)).1
  · rw [e3]
theorem wq_ge {a b c d vx vy dx dy : Int32} (h : wq_D a b c d vx vy dx dy) (p : 0 ≤ wq_b a b c d dx dy) : wq_H a b c d vx vy dx dy ↔ (0 < wq_t a b c d vx vy ∧ 0 < wq_b a b c d dx dy ∧ wq_one (dx * (b - vy) - dy * (a - vx)) (dx * (d - vy) - dy * (c - vx))) := by
  obtain ⟨e1, e2, e3⟩ := wq_sides h
  unfold wq_H wq_T wq_B wq_A wq_one
  rw [if_pos p, if_pos p, if_pos p]
  simp only [Int32.lt_iff_toInt_lt, Int32.le_iff_toInt_le, wq_z] at *
  rw [e1, e2]
  generalize (dx * (b - vy) - dy * (a - vx)).toInt = S at *
  generalize (wq_b a b c d dx dy).toInt = B at *
  omega
theorem wq_nge {a b c d vx vy dx dy : Int32} (h : wq_D a b c d vx vy dx dy) (p : ¬ 0 ≤ wq_b a b c d dx dy) : wq_H a b c d vx vy dx dy ↔ (0 < - wq_t a b c d vx vy ∧ 0 < - wq_b a b c d dx dy ∧ wq_one (dx * (b - vy) - dy * (a - vx)) (dx * (d - vy) - dy * (c - vx))) := by
  obtain ⟨e1, e2, e3⟩ := wq_sides h
  have e4 := (wq_neg (wq_bB h) (by decide)).1
  unfold wq_H wq_T wq_B wq_A wq_one
  rw [if_neg p, if_neg p, if_neg p]
  simp only [Int32.lt_iff_toInt_lt, Int32.le_iff_toInt_le, wq_z] at *
  rw [e3, e2, e4]
  generalize (dx * (b - vy) - dy * (a - vx)).toInt = S at *
  generalize (wq_b a b c d dx dy).toInt = B at *
  omega
/-- the depth: the signs as they came, or both made positive -/
theorem wq_quot {a b c d vx vy dx dy : Int32} (h : wq_D a b c d vx vy dx dy) : (1024 * wq_t a b c d vx vy) / wq_b a b c d dx dy = (1024 * wq_T a b c d vx vy dx dy) / wq_B a b c d dx dy := by
  unfold wq_T wq_B
  by_cases p : 0 ≤ wq_b a b c d dx dy
  · rw [if_pos p, if_pos p]
  · rw [if_neg p, if_neg p]
    have hT := wq_bT h
    have hB := wq_bB h
    have k : wq_M 1024 (1024 : Int32) := by
      unfold wq_M
      decide
    apply Int32.toInt_inj.mp
    rw [Int32.toInt_div, Int32.toInt_div, (wq_mul k hT (by decide)).1, (wq_mul k (wq_neg hT (by decide)).2 (by decide)).1, (wq_neg hT (by decide)).1, (wq_neg hB (by decide)).1, Int.mul_neg, Int.neg_tdiv, Int.tdiv_neg, Int.neg_neg]
/-- what makes wall i the nearest so far -/
def wq_K (H : Prop) (x5 x6 x7 T B : Int32) : Prop := H ∧ (x5 = (-4) ∨ ¬ (x6 * B) ≤ (T * x7))
end
section
/-! the walls of both sides: the class's four arrays and the reference's one -/
def wq_W (c : Nat) (fx fy tx ty e : Nat → Int32) : Prop := ∀ n, n < c → (e (4 * n) = fx n ∧ e (4 * n + 1) = fy n ∧ e (4 * n + 2) = tx n ∧ e (4 * n + 3) = ty n) ∧ wq_M 14 (fx n) ∧ wq_M 14 (fy n) ∧ wq_M 14 (tx n) ∧ wq_M 14 (ty n)
theorem wq_4 (n : Nat) : 4 * nI n = nI (4 * n) := pk_mul 4 n
theorem wq_41 (n : Nat) : 4 * nI n + 1 = nI (4 * n + 1) := by
  rw [wq_4]
  exact nI_add _ 1
theorem wq_42 (n : Nat) : 4 * nI n + 2 = nI (4 * n + 2) := by
  rw [wq_4]
  exact nI_add _ 2
theorem wq_43 (n : Nat) : 4 * nI n + 3 = nI (4 * n + 3) := by
  rw [wq_4]
  exact nI_add _ 3
theorem wq_i0 {n : Nat} (h : n < 10) : vp_in (4 * nI n) 40 := pk_in (4 * n) 40 (by omega) (wq_4 n)
theorem wq_i1 {n : Nat} (h : n < 10) : vp_in (4 * nI n + 1) 40 := pk_in (4 * n + 1) 40 (by omega) (wq_41 n)
theorem wq_i2 {n : Nat} (h : n < 10) : vp_in (4 * nI n + 2) 40 := pk_in (4 * n + 2) 40 (by omega) (wq_42 n)
theorem wq_i3 {n : Nat} (h : n < 10) : vp_in (4 * nI n + 3) 40 := pk_in (4 * n + 3) 40 (by omega) (wq_43 n)
theorem wq_c0 {n : Nat} (h : n < 10) : (4 * nI n).toNatClampNeg = 4 * n := pk_cl _ (wq_4 n)
theorem wq_c1 {n : Nat} (h : n < 10) : (4 * nI n + 1).toNatClampNeg = 4 * n + 1 := pk_cl _ (wq_41 n)
theorem wq_c2 {n : Nat} (h : n < 10) : (4 * nI n + 2).toNatClampNeg = 4 * n + 2 := pk_cl _ (wq_42 n)
theorem wq_c3 {n : Nat} (h : n < 10) : (4 * nI n + 3).toNatClampNeg = 4 * n + 3 := pk_cl _ (wq_43 n)
/-! the rays -/
def wq_rx (l k : Nat) : Int32 := if l = 0 then 16 else if l = 1 then - (2 * nI k - 15) else if l = 2 then (-16) else 2 * nI k - 15
def wq_ry (l k : Nat) : Int32 := if l = 0 then 2 * nI k - 15 else if l = 1 then 16 else if l = 2 then - (2 * nI k - 15) else (-16)
theorem wq_rB : ∀ l : Fin 4, ∀ k : Fin 16, (wq_rx l.val k.val).toInt.natAbs ≤ 16 ∧ (wq_ry l.val k.val).toInt.natAbs ≤ 16 := by decide +kernel
theorem wq_Bx {l k : Nat} (hl : l < 4) (hk : k < 16) : wq_M 16 (wq_rx l k) := (wq_rB ⟨l, hl⟩ ⟨k, hk⟩).1
theorem wq_By {l k : Nat} (hl : l < 4) (hk : k < 16) : wq_M 16 (wq_ry l k) := (wq_rB ⟨l, hl⟩ ⟨k, hk⟩).2
theorem wq_xrx {post : Int32 → Prop} {l k : Nat} (hl : l < 4) (h : post (wq_rx l k)) : wpX_rayX post (nI l) (nI k) := by
  match l, hl, h with
  | 0, _, h => exact br_f (by decide) (br_f (by decide) (br_t (by decide) h))
  | 1, _, h => exact br_f (by decide) (br_f (by decide) (br_f (by decide) (br_t (by decide) h)))
  | 2, _, h => exact br_f (by decide) (br_f (by decide) (br_f (by decide) (br_f (by decide) (br_t (by decide) h))))
  | 3, _, h => exact br_f (by decide) (br_t (by decide) h)
theorem wq_xry {post : Int32 → Prop} {l k : Nat} (hl : l < 4) (h : post (wq_ry l k)) : wpX_rayY post (nI l) (nI k) := by
  match l, hl, h with
  | 0, _, h => exact br_f (by decide) (br_f (by decide) (br_t (by decide) h))
  | 1, _, h => exact br_f (by decide) (br_f (by decide) (br_f (by decide) (br_t (by decide) h)))
  | 2, _, h => exact br_f (by decide) (br_f (by decide) (br_f (by decide) (br_f (by decide) (br_t (by decide) h))))
  | 3, _, h => exact br_f (by decide) (br_t (by decide) h)
theorem wq_yrx {post : Int32 → Prop} {l k : Nat} (hl : l < 4) {w vx vy t b : Int32} {e : Nat → Int32} (h : post (wq_rx l k)) : wpY_rayX post (w, vx, vy, t, b, e) (nI l) (nI k) := by
  match l, hl, h with
  | 0, _, h => exact nm_e (br_t (by decide) h)
  | 1, _, h => exact nm_e (br_f (by decide) (br_t (by decide) h))
  | 2, _, h => exact nm_e (br_f (by decide) (br_f (by decide) (br_t (by decide) h)))
  | 3, _, h => exact nm_e (br_f (by decide) (br_f (by decide) (br_f (by decide) h)))
theorem wq_yry {post : Int32 → Prop} {l k : Nat} (hl : l < 4) {w vx vy t b : Int32} {e : Nat → Int32} (h : post (wq_ry l k)) : wpY_rayY post (w, vx, vy, t, b, e) (nI l) (nI k) := by
  match l, hl, h with
  | 0, _, h => exact nm_e (br_t (by decide) h)
  | 1, _, h => exact nm_e (br_f (by decide) (br_t (by decide) h))
  | 2, _, h => exact nm_e (br_f (by decide) (br_f (by decide) (br_t (by decide) h)))
  | 3, _, h => exact nm_e (br_f (by decide) (br_f (by decide) (br_f (by decide) h)))
end
section
/-! the class: one wall and one ray -/
theorem wq_xone {post : Int32 → Prop} {p q : Int32} (h1 : wq_one p q → post 1) (h0 : ¬ wq_one p q → post 0) : wpX_notOnOneSide post p q := by
  have z8 : (p ≤ 0 ∨ ¬ 0 < q) → wX_notOnOneSide_8 post p q := by
    intro s
    refine br_c (fun a => h1 ?_) (fun a => br_c (fun b => h0 ?_) (fun b => h1 ?_))
    all_goals
      unfold wq_one
      simp only [Int32.lt_iff_toInt_lt, Int32.le_iff_toInt_le, wq_z] at *
      omega
  refine br_c (fun a => z8 (Or.inl a)) (fun a => br_c (fun b => h0 ?_) (fun b => z8 (Or.inr b)))
  unfold wq_one
  simp only [Int32.lt_iff_toInt_lt, Int32.le_iff_toInt_le, wq_z] at *
  omega
theorem wq_xtop {post : Int32 → Prop} {n : Nat} (hn : n < 10) {w vx vy : Int32} {fx fy tx ty : Nat → Int32} (h : post (wq_t (fx n) (fy n) (tx n) (ty n) vx vy)) : wpX_hitTop post (w, vx, vy, fx, fy, tx, ty) (nI n) := by
  have hi : vp_in (nI n) 10 := vp_in_nI hn (by omega)
  have e : (nI n).toNatClampNeg = n := nI_clamp (by omega)
  unfold wpX_hitTop wpX_cross
  dsimp only
  rw [e]
  exact ⟨hi, hi, hi, hi, hi, hi, h⟩
theorem wq_xbot {post : Int32 → Prop} {n : Nat} (hn : n < 10) {w vx vy dx dy : Int32} {fx fy tx ty : Nat → Int32} (h : post (wq_b (fx n) (fy n) (tx n) (ty n) dx dy)) : wpX_hitBottom post (w, vx, vy, fx, fy, tx, ty) (nI n) dx dy := by
  have hi : vp_in (nI n) 10 := vp_in_nI hn (by omega)
  have e : (nI n).toNatClampNeg = n := nI_clamp (by omega)
  unfold wpX_hitBottom wpX_cross
  dsimp only
  rw [e]
  exact ⟨hi, hi, hi, hi, h⟩
theorem wq_xline {post : Int32 → Prop} {n : Nat} (hn : n < 10) {w vx vy dx dy : Int32} {fx fy tx ty : Nat → Int32} (h1 : wq_one (dx * (fy n - vy) - dy * (fx n - vx)) (dx * (ty n - vy) - dy * (tx n - vx)) → post 1) (h0 : ¬ wq_one (dx * (fy n - vy) - dy * (fx n - vx)) (dx * (ty n - vy) - dy * (tx n - vx)) → post 0) : wpX_meetsLineOfRay post (w, vx, vy, fx, fy, tx, ty) (nI n) dx dy := by
  have hi : vp_in (nI n) 10 := vp_in_nI hn (by omega)
  have e : (nI n).toNatClampNeg = n := nI_clamp (by omega)
  unfold wpX_meetsLineOfRay wpX_cross
  dsimp only
  rw [e]
  exact ⟨hi, hi, hi, hi, wq_xone (fun z => ⟨rfl, h1 z⟩) (fun z => ⟨rfl, h0 z⟩)⟩
theorem wq_x96 {post : Int32 → Prop} {J : Int32 → Int32 → Int32 → Int32 → Prop} {dx dy x5 x6 x7 T B z w vx vy : Int32} {i : Nat} {fx fy tx ty : Nat → Int32} (H : Prop) (hz : (z = 0 ∧ ¬ H) ∨ (z = 1 ∧ H)) (h1 : wq_K H x5 x6 x7 T B → J (nI i) T B (nI (i + 1))) (h0 : ¬ wq_K H x5 x6 x7 T B → J x5 x6 x7 (nI (i + 1))) : wX_nearestWall_96 post J dx dy x5 x6 x7 (nI i) T B z w vx vy fx fy tx ty := by
  rcases hz with ⟨rfl, hH⟩ | ⟨rfl, hH⟩
  · exact br_t rfl (nm_r (nI_1 i) (h0 fun k => hH k.1))
  · refine br_f (by decide) (br_c (fun a => ?_) (fun a => br_c (fun b => nm_r (nI_1 i) (h0 fun k => k.2.elim a (fun q => q b))) (fun b => ?_)))
    · exact nm_r (nI_1 i) (h1 ⟨hH, Or.inl a⟩)
    · exact nm_r (nI_1 i) (h1 ⟨hH, Or.inr b⟩)
theorem wq_x69 {post : Int32 → Prop} {J : Int32 → Int32 → Int32 → Int32 → Prop} {dx dy x5 x6 x7 T B w vx vy : Int32} {i : Nat} (hi : i < 10) {fx fy tx ty : Nat → Int32} (H : Prop) (hH : H ↔ (0 < T ∧ 0 < B ∧ wq_one (dx * (fy i - vy) - dy * (fx i - vx)) (dx * (ty i - vy) - dy * (tx i - vx)))) (h1 : wq_K H x5 x6 x7 T B → J (nI i) T B (nI (i + 1))) (h0 : ¬ wq_K H x5 x6 x7 T B → J x5 x6 x7 (nI (i + 1))) : wX_nearestWall_69 post J dx dy x5 x6 x7 (nI i) T B w vx vy fx fy tx ty := by
  have no : ¬ H → wX_nearestWall_95 post J dx dy x5 x6 x7 (nI i) T B w vx vy fx fy tx ty := fun hn => wq_x96 H (Or.inl ⟨rfl, hn⟩) h1 h0
  refine br_c (fun a => no fun k => Int32.not_lt.mpr a (hH.mp k).1) (fun a => br_c (fun b => no fun k => Int32.not_lt.mpr b (hH.mp k).2.1) (fun b => wq_xline hi (fun o => ?_) (fun o => ?_)))
  · exact br_f (by decide) (wq_x96 H (Or.inr ⟨rfl, hH.mpr ⟨Int32.not_le.mp a, Int32.not_le.mp b, o⟩⟩) h1 h0)
  · exact br_t rfl (no fun k => o (hH.mp k).2.2)
theorem wq_x26 {post : Int32 → Prop} {dx dy x5 x6 x7 vx vy : Int32} {n i c : Nat} (hi : i < c) (hc : c ≤ 10) {fx fy tx ty : Nat → Int32} (D : wq_D (fx i) (fy i) (tx i) (ty i) vx vy dx dy)
    (h1 : wq_K (wq_H (fx i) (fy i) (tx i) (ty i) vx vy dx dy) x5 x6 x7 (wq_T (fx i) (fy i) (tx i) (ty i) vx vy dx dy) (wq_B (fx i) (fy i) (tx i) (ty i) dx dy) → wX_nearestWall_26 post dx dy (nI c) vx vy fx fy tx ty n (nI i) (wq_T (fx i) (fy i) (tx i) (ty i) vx vy dx dy) (wq_B (fx i) (fy i) (tx i) (ty i) dx dy) (nI (i + 1)))
    (h0 : ¬ wq_K (wq_H (fx i) (fy i) (tx i) (ty i) vx vy dx dy) x5 x6 x7 (wq_T (fx i) (fy i) (tx i) (ty i) vx vy dx dy) (wq_B (fx i) (fy i) (tx i) (ty i) dx dy) → wX_nearestWall_26 post dx dy (nI c) vx vy fx fy tx ty n x5 x6 x7 (nI (i + 1))) :
    wX_nearestWall_26 post dx dy (nI c) vx vy fx fy tx ty (n + 1) x5 x6 x7 (nI i) := by
  refine br_f (nI_ge hi (by omega)) (wq_xtop (by omega) (wq_xbot (by omega) (br_c (fun p => ?_) (fun p => nm_e (nm_e ?_)))))
  · have eT : wq_T (fx i) (fy i) (tx i) (ty i) vx vy dx dy = wq_t (fx i) (fy i) (tx i) (ty i) vx vy := if_pos p
    have eB : wq_B (fx i) (fy i) (tx i) (ty i) dx dy = wq_b (fx i) (fy i) (tx i) (ty i) dx dy := if_pos p
    rw [eT, eB] at h1 h0
    exact wq_x69 (by omega) _ (wq_ge D p) h1 h0
  · have eT : wq_T (fx i) (fy i) (tx i) (ty i) vx vy dx dy = - wq_t (fx i) (fy i) (tx i) (ty i) vx vy := if_neg p
    have eB : wq_B (fx i) (fy i) (tx i) (ty i) dx dy = - wq_b (fx i) (fy i) (tx i) (ty i) dx dy := if_neg p
    rw [eT, eB] at h1 h0
    exact wq_x69 (by omega) _ (wq_nge D p) h1 h0
/-! the reference: one wall and one ray -/
theorem wq_y165 {post : Int32 → SY → Prop} {w vx vy T B A : Int32} {e : Nat → Int32} (h1 : (0 < B ∧ 0 < T ∧ 0 ≤ A ∧ A ≤ B) → post 1 (w, vx, vy, T, B, e)) (h0 : ¬ (0 < B ∧ 0 < T ∧ 0 ≤ A ∧ A ≤ B) → post 0 (w, vx, vy, T, B, e)) : wY_hits_165 post A w vx vy T B e := by
  refine br_c (fun a => h0 fun k => Int32.not_lt.mpr a k.1) (fun a => br_c (fun b => h0 fun k => Int32.not_lt.mpr b k.2.1) (fun b => br_c (fun g => h0 fun k => Int32.not_lt.mpr k.2.2.1 g) (fun g => br_c (fun f => h0 fun k => Int32.not_lt.mpr k.2.2.2 f) (fun f => h1 ?_))))
  exact ⟨Int32.not_le.mp a, Int32.not_le.mp b, Int32.not_lt.mp g, Int32.not_lt.mp f⟩
theorem wq_yhits {post : Int32 → SY → Prop} {n l k : Nat} (hn : n < 10) (hl : l < 4) {w vx vy t b : Int32} {e : Nat → Int32} {fx fy tx ty : Int32} (E : e (4 * n) = fx ∧ e (4 * n + 1) = fy ∧ e (4 * n + 2) = tx ∧ e (4 * n + 3) = ty)
    (h1 : wq_H fx fy tx ty vx vy (wq_rx l k) (wq_ry l k) → post 1 (w, vx, vy, wq_T fx fy tx ty vx vy (wq_rx l k) (wq_ry l k), wq_B fx fy tx ty (wq_rx l k) (wq_ry l k), e))
    (h0 : ¬ wq_H fx fy tx ty vx vy (wq_rx l k) (wq_ry l k) → post 0 (w, vx, vy, wq_T fx fy tx ty vx vy (wq_rx l k) (wq_ry l k), wq_B fx fy tx ty (wq_rx l k) (wq_ry l k), e)) :
    wpY_hits post (w, vx, vy, t, b, e) (nI n) (nI l) (nI k) := by
  obtain ⟨ea, eb, ec, ed⟩ := E
  unfold wpY_hits
  dsimp only
  refine wq_yrx hl (wq_yry hl ?_)
  rw [wq_c0 hn, wq_c1 hn, wq_c2 hn, wq_c3 hn, ea, eb, ec, ed]
  refine ⟨wq_i2 hn, wq_i0 hn, nm_e ⟨wq_i3 hn, wq_i1 hn, nm_e ⟨wq_i0 hn, nm_e ⟨wq_i1 hn, nm_e (nm_e (nm_e (nm_e (br_c (fun p => ?_) (fun p => nm_e (nm_e (nm_e ?_)))))))⟩⟩⟩⟩
  · have p' : 0 ≤ wq_b fx fy tx ty (wq_rx l k) (wq_ry l k) := p
    unfold wq_H wq_T wq_B wq_A at h1 h0
    rw [if_pos p', if_pos p', if_pos p'] at h1 h0
    exact wq_y165 h1 h0
  · have p' : ¬ 0 ≤ wq_b fx fy tx ty (wq_rx l k) (wq_ry l k) := p
    unfold wq_H wq_T wq_B wq_A at h1 h0
    rw [if_neg p', if_neg p', if_neg p'] at h1 h0
    exact wq_y165 h1 h0
theorem wq_y23 {post : Int32 → SY → Prop} {x3 x4 x5 vx vy t b : Int32} {n i c l k : Nat} (hi : i < c) (hc : c ≤ 10) (hl : l < 4) {e : Nat → Int32} {fx fy tx ty : Int32} (E : e (4 * i) = fx ∧ e (4 * i + 1) = fy ∧ e (4 * i + 2) = tx ∧ e (4 * i + 3) = ty)
    (h1 : wq_K (wq_H fx fy tx ty vx vy (wq_rx l k) (wq_ry l k)) x3 x4 x5 (wq_T fx fy tx ty vx vy (wq_rx l k) (wq_ry l k)) (wq_B fx fy tx ty (wq_rx l k) (wq_ry l k)) → ∀ t' b' : Int32, wY_seen_23 post (nI l) (nI k) n (nI i) (wq_T fx fy tx ty vx vy (wq_rx l k) (wq_ry l k)) (wq_B fx fy tx ty (wq_rx l k) (wq_ry l k)) (nI (i + 1)) (nI c) vx vy t' b' e)
    (h0 : ¬ wq_K (wq_H fx fy tx ty vx vy (wq_rx l k) (wq_ry l k)) x3 x4 x5 (wq_T fx fy tx ty vx vy (wq_rx l k) (wq_ry l k)) (wq_B fx fy tx ty (wq_rx l k) (wq_ry l k)) → ∀ t' b' : Int32, wY_seen_23 post (nI l) (nI k) n x3 x4 x5 (nI (i + 1)) (nI c) vx vy t' b' e) :
    wY_seen_23 post (nI l) (nI k) (n + 1) x3 x4 x5 (nI i) (nI c) vx vy t b e := by
  refine br_f (nI_ge hi (by omega)) (wq_yhits (by omega) hl E (fun H => ?_) (fun H => ?_))
  · refine br_f (by decide) (br_c (fun a => nm_r (nI_1 i) (h1 ⟨H, Or.inl a⟩ _ _)) (fun a => br_c (fun q => nm_r (nI_1 i) (h0 (fun k => k.2.elim a (fun q' => q' q)) _ _)) (fun q => nm_r (nI_1 i) (h1 ⟨H, Or.inr q⟩ _ _))))
  · exact br_t rfl (nm_r (nI_1 i) (h0 (fun k => H k.1) _ _))
/-! the nearest wall of a ray: both sides turn by turn -/
def wq_G (c l k : Nat) (vx vy : Int32) (fx fy tx ty : Nat → Int32) (r : Int32) : Prop := r = (-4) ∨ ∃ n, n < c ∧ r = nI n ∧ wq_H (fx n) (fy n) (tx n) (ty n) vx vy (wq_rx l k) (wq_ry l k)
theorem wq_lock {c l k : Nat} (hc : c ≤ 10) (hl : l < 4) (hk : k < 16) {vx vy : Int32} {fx fy tx ty e : Nat → Int32} (bx : wq_M 14 vx) (byy : wq_M 14 vy) (W : wq_W c fx fy tx ty e) :
    ∀ d i, i + d = c → ∀ x5 x6 x7 : Int32, wq_G c l k vx vy fx fy tx ty x5 → ∃ r : Int32, wq_G c l k vx vy fx fy tx ty r ∧ (∀ post : Int32 → Prop, post r → wX_nearestWall_26 post (wq_rx l k) (wq_ry l k) (nI c) vx vy fx fy tx ty (d + 1) x5 x6 x7 (nI i)) ∧ (∀ (post : Int32 → SY → Prop) (t b : Int32), (∀ t' b' : Int32, post r (nI c, vx, vy, t', b', e)) → wY_seen_23 post (nI l) (nI k) (d + 1) x5 x6 x7 (nI i) (nI c) vx vy t b e) := by
  intro d
  induction d with
  | zero =>
    intro i hi x5 x6 x7 g
    have h : nI c ≤ nI i := nI_le (by omega) (by omega)
    exact ⟨x5, g, fun _ hp => br_t h hp, fun _ _ _ hp => br_t h (hp _ _)⟩
  | succ d ih =>
    intro i hi x5 x6 x7 g
    have hic : i < c := by omega
    obtain ⟨E, M⟩ := W i hic
    have D : wq_D (fx i) (fy i) (tx i) (ty i) vx vy (wq_rx l k) (wq_ry l k) := ⟨M, ⟨bx, byy⟩, wq_Bx hl hk, wq_By hl hk⟩
    by_cases K : wq_K (wq_H (fx i) (fy i) (tx i) (ty i) vx vy (wq_rx l k) (wq_ry l k)) x5 x6 x7 (wq_T (fx i) (fy i) (tx i) (ty i) vx vy (wq_rx l k) (wq_ry l k)) (wq_B (fx i) (fy i) (tx i) (ty i) (wq_rx l k) (wq_ry l k))
    · obtain ⟨r, gr, hX, hY⟩ := ih (i + 1) (by omega) (nI i) (wq_T (fx i) (fy i) (tx i) (ty i) vx vy (wq_rx l k) (wq_ry l k)) (wq_B (fx i) (fy i) (tx i) (ty i) (wq_rx l k) (wq_ry l k)) (Or.inr ⟨i, hic, rfl, K.1⟩)
      exact ⟨r, gr, fun post hp => wq_x26 hic hc D (fun _ => hX post hp) (fun z => absurd K z), fun post t b hp => wq_y23 hic hc hl E (fun _ t' b' => hY post t' b' hp) (fun z => absurd K z)⟩
    · obtain ⟨r, gr, hX, hY⟩ := ih (i + 1) (by omega) x5 x6 x7 g
      exact ⟨r, gr, fun post hp => wq_x26 hic hc D (fun z => absurd z K) (fun _ => hX post hp), fun post t b hp => wq_y23 hic hc hl E (fun z => absurd z K) (fun _ t' b' => hY post t' b' hp)⟩
theorem wq_yray {post : Int32 → Prop} {l k : Nat} (hl : l < 4) (hk : k < 16) {v : SY} (h : post 1) : wpY_isRay post v (nI l) (nI k) :=
  br_f (nI_pos (by omega)) (br_f (nI_nlt (b := l) (a := 3) (by omega) (by decide)) (br_f (nI_pos (by omega)) (br_f (nI_nlt (b := k) (a := 15) (by omega) (by decide)) h)))
/-- one answer for a ray, on both sides -/
def wq_S (c : Nat) (vx vy : Int32) (fx fy tx ty e : Nat → Int32) : Prop := ∀ l k, l < 4 → k < 16 → ∃ r : Int32, wq_G c l k vx vy fx fy tx ty r ∧ (∀ post : Int32 → Prop, post r → wpX_nearestWall post (nI c, vx, vy, fx, fy, tx, ty) (nI l) (nI k)) ∧ (∀ (post : Int32 → SY → Prop) (t b : Int32), (∀ t' b' : Int32, post r (nI c, vx, vy, t', b', e)) → wpY_seen post (nI c, vx, vy, t, b, e) (nI l) (nI k))
theorem wq_see {c : Nat} (hc : c ≤ 10) {vx vy : Int32} {fx fy tx ty e : Nat → Int32} (bx : wq_M 14 vx) (byy : wq_M 14 vy) (W : wq_W c fx fy tx ty e) : wq_S c vx vy fx fy tx ty e := by
  intro l k hl hk
  obtain ⟨r, g, hX, hY⟩ := wq_lock hc hl hk bx byy W c 0 (by omega) (-4) 0 1 (Or.inl rfl)
  rw [nI_0] at hX hY
  refine ⟨r, g, fun post hp => ?_, fun post t b hp => ?_⟩
  · unfold wpX_nearestWall
    dsimp only
    exact wq_xrx hl (wq_xry hl ⟨_, hX post hp⟩)
  · unfold wpY_seen
    dsimp only
    exact wq_yray hl hk (br_f (by decide) ⟨_, hY post t b hp⟩)
end
section
/-! the loops over rays: both sides turn by turn, over one answer for each ray -/
theorem wq_in12 {c : Nat} {vx vy : Int32} {fx fy tx ty e : Nat → Int32} (S : wq_S c vx vy fx fy tx ty e) (x1 : Int32) {l : Nat} (hl : l < 4) :
    ∀ d j, j + d = 16 → ∀ x2 : Int32, ∃ r : Int32, (∀ (post : Int32 → Prop) (J : Int32 → Int32 → Prop), J r (nI (l + 1)) → wX_raysThatShow_12 post J x1 (nI l) (nI c) vx vy fx fy tx ty (d + 1) x2 (nI j)) ∧ (∀ (post : Int32 → SY → Prop) (J : Int32 → Int32 → Int32 → Int32 → Int32 → Int32 → Int32 → (Nat → Int32) → Prop) (t b : Int32), (∀ t' b' : Int32, J r (nI (l + 1)) (nI c) vx vy t' b' e) → wY_raysThatSee_12 post J x1 (nI l) (d + 1) x2 (nI j) (nI c) vx vy t b e) := by
  intro d
  induction d with
  | zero =>
    intro j hj x2
    have h : (16 : Int32) ≤ nI j := nI_le (a := 16) (by omega) (by omega)
    exact ⟨x2, fun _ _ hp => br_t h (nm_r (nI_1 l) hp), fun _ _ _ _ hp => br_t h (nm_r (nI_1 l) (hp _ _))⟩
  | succ d ih =>
    intro j hj x2
    have h : ¬ (16 : Int32) ≤ nI j := nI_ge (b := 16) (by omega) (by decide)
    obtain ⟨s, _, sX, sY⟩ := S l j hl (by omega)
    by_cases z : s = x1
    · obtain ⟨r, hX, hY⟩ := ih (j + 1) (by omega) (x2 + 1)
      exact ⟨r, fun post J hp => br_f h (sX _ (br_t z (nm_e (nm_r (nI_1 j) (hX post J hp))))), fun post J t b hp => br_f h (sY _ t b fun t' b' => br_t z (nm_e (nm_r (nI_1 j) (hY post J t' b' hp))))⟩
    · obtain ⟨r, hX, hY⟩ := ih (j + 1) (by omega) x2
      exact ⟨r, fun post J hp => br_f h (sX _ (br_f z (nm_r (nI_1 j) (hX post J hp)))), fun post J t b hp => br_f h (sY _ t b fun t' b' => br_f z (nm_r (nI_1 j) (hY post J t' b' hp)))⟩
theorem wq_in4 {c : Nat} {vx vy : Int32} {fx fy tx ty e : Nat → Int32} (S : wq_S c vx vy fx fy tx ty e) (x1 : Int32) :
    ∀ d l, l + d = 4 → ∀ x2 : Int32, ∃ r : Int32, (∀ post : Int32 → Prop, post r → wX_raysThatShow_4 post x1 (nI c) vx vy fx fy tx ty (d + 1) x2 (nI l)) ∧ (∀ (post : Int32 → SY → Prop) (t b : Int32), (∀ t' b' : Int32, post r (nI c, vx, vy, t', b', e)) → wY_raysThatSee_4 post x1 (d + 1) x2 (nI l) (nI c) vx vy t b e) := by
  intro d
  induction d with
  | zero =>
    intro l hl x2
    have h : (4 : Int32) ≤ nI l := nI_le (a := 4) (by omega) (by omega)
    exact ⟨x2, fun _ hp => br_t h hp, fun _ _ _ hp => br_t h (hp _ _)⟩
  | succ d ih =>
    intro l hl x2
    have h : ¬ (4 : Int32) ≤ nI l := nI_ge (b := 4) (by omega) (by decide)
    obtain ⟨r1, aX, aY⟩ := wq_in12 S x1 (l := l) (by omega) 16 0 (by omega) x2
    rw [nI_0] at aX aY
    obtain ⟨r, hX, hY⟩ := ih (l + 1) (by omega) r1
    exact ⟨r, fun post hp => br_f h ⟨_, aX post _ (hX post hp)⟩, fun post t b hp => br_f h ⟨_, aY post _ t b fun t' b' => hY post t' b' hp⟩⟩
theorem wq_rays {c : Nat} {vx vy : Int32} {fx fy tx ty e : Nat → Int32} (S : wq_S c vx vy fx fy tx ty e) (x1 : Int32) : ∃ r : Int32, (∀ post : Int32 → Prop, post r → wpX_raysThatShow post (nI c, vx, vy, fx, fy, tx, ty) x1) ∧ (∀ (post : Int32 → SY → Prop) (t b : Int32), (∀ t' b' : Int32, post r (nI c, vx, vy, t', b', e)) → wpY_raysThatSee post (nI c, vx, vy, t, b, e) x1) := by
  obtain ⟨r, hX, hY⟩ := wq_in4 S x1 4 0 (by omega) 0
  rw [nI_0] at hX hY
  exact ⟨r, fun post hp => ⟨_, hX post hp⟩, fun post t b hp => ⟨_, hY post t b hp⟩⟩
theorem wq_is2 {c : Nat} {vx vy : Int32} {fx fy tx ty e : Nat → Int32} (S : wq_S c vx vy fx fy tx ty e) (x1 : Int32) {l : Nat} (hl : l < 4) :
    ∀ d j, j + d = 16 → ∃ r : Int32, (∀ post : Int32 → Prop, post r → wX_isSeenInLook_2 post x1 (nI l) (nI c) vx vy fx fy tx ty (d + 1) (nI j)) ∧ (∀ (post : Int32 → SY → Prop) (t b : Int32), (∀ t' b' : Int32, post r (nI c, vx, vy, t', b', e)) → wY_isSeen_2 post (nI l) x1 (d + 1) (nI j) (nI c) vx vy t b e) := by
  intro d
  induction d with
  | zero =>
    intro j hj
    have h : (16 : Int32) ≤ nI j := nI_le (a := 16) (by omega) (by omega)
    exact ⟨0, fun _ hp => br_t h hp, fun _ _ _ hp => br_t h (hp _ _)⟩
  | succ d ih =>
    intro j hj
    have h : ¬ (16 : Int32) ≤ nI j := nI_ge (b := 16) (by omega) (by decide)
    obtain ⟨s, _, sX, sY⟩ := S l j hl (by omega)
    by_cases z : s = x1
    · exact ⟨1, fun post hp => br_f h (sX _ (br_t z hp)), fun post t b hp => br_f h (sY _ t b fun t' b' => br_t z (hp _ _))⟩
    · obtain ⟨r, hX, hY⟩ := ih (j + 1) (by omega)
      exact ⟨r, fun post hp => br_f h (sX _ (br_f z (nm_r (nI_1 j) (hX post hp)))), fun post t b hp => br_f h (sY _ t b fun t' b' => br_f z (nm_r (nI_1 j) (hY post t' b' hp)))⟩
theorem wq_is {c : Nat} {vx vy : Int32} {fx fy tx ty e : Nat → Int32} (S : wq_S c vx vy fx fy tx ty e) (x1 : Int32) {l : Nat} (hl : l < 4) : ∃ r : Int32, (∀ post : Int32 → Prop, post r → wpX_isSeenInLook post (nI c, vx, vy, fx, fy, tx, ty) x1 (nI l)) ∧ (∀ (post : Int32 → SY → Prop) (t b : Int32), (∀ t' b' : Int32, post r (nI c, vx, vy, t', b', e)) → wpY_isSeen post (nI c, vx, vy, t, b, e) (nI l) x1) := by
  obtain ⟨r, hX, hY⟩ := wq_is2 S x1 hl 16 0 (by omega)
  rw [nI_0] at hX hY
  exact ⟨r, fun post hp => ⟨_, hX post hp⟩, fun post t b hp => ⟨_, hY post t b hp⟩⟩
theorem wq_vis {c : Nat} (hc : c ≤ 10) {vx vy : Int32} {fx fy tx ty e : Nat → Int32} (S : wq_S c vx vy fx fy tx ty e) {l : Nat} (hl : l < 4) :
    ∀ d i, i + d = c → ∀ x2 : Int32, ∃ r : Int32, (∀ post : Int32 → Prop, post r → wX_visible_13 post (nI l) (nI c) vx vy fx fy tx ty (d + 1) x2 (nI i)) ∧ (∀ (post : Int32 → SY → Prop) (t b : Int32), (∀ t' b' : Int32, post r (nI c, vx, vy, t', b', e)) → wY_visible_15 post (nI l) (d + 1) x2 (nI i) (nI c) vx vy t b e) := by
  intro d
  induction d with
  | zero =>
    intro i hi x2
    have h : nI c ≤ nI i := nI_le (by omega) (by omega)
    exact ⟨x2, fun _ hp => br_t h hp, fun _ _ _ hp => br_t h (hp _ _)⟩
  | succ d ih =>
    intro i hi x2
    have h : ¬ nI c ≤ nI i := nI_ge (by omega) (by omega)
    obtain ⟨s, sX, sY⟩ := wq_is S (nI i) hl
    by_cases z : s = 0
    · obtain ⟨r, hX, hY⟩ := ih (i + 1) (by omega) x2
      exact ⟨r, fun post hp => br_f h (sX _ (br_t z (nm_r (nI_1 i) (hX post hp)))), fun post t b hp => br_f h (sY _ t b fun t' b' => br_t z (nm_r (nI_1 i) (hY post t' b' hp)))⟩
    · obtain ⟨r, hX, hY⟩ := ih (i + 1) (by omega) (x2 + 1)
      exact ⟨r, fun post hp => br_f h (sX _ (br_f z (nm_e (nm_r (nI_1 i) (hX post hp))))), fun post t b hp => br_f h (sY _ t b fun t' b' => br_f z (nm_e (nm_r (nI_1 i) (hY post t' b' hp))))⟩
theorem wq_edge {c : Nat} {vx vy : Int32} {fx fy tx ty e : Nat → Int32} (S : wq_S c vx vy fx fy tx ty e) {l : Nat} (hl : l < 4) :
    ∀ d j, j + d = 15 → ∃ r : Int32, (∀ post : Int32 → Prop, post r → wX_edge_11 post (nI l) (nI c) vx vy fx fy tx ty (d + 1) (nI j)) ∧ (∀ (post : Int32 → SY → Prop) (t b : Int32), (∀ t' b' : Int32, post r (nI c, vx, vy, t', b', e)) → wY_edge_13 post (nI l) (d + 1) (nI j) (nI c) vx vy t b e) := by
  intro d
  induction d with
  | zero =>
    intro j hj
    have h : (15 : Int32) ≤ nI j := nI_le (a := 15) (by omega) (by omega)
    exact ⟨(-4), fun _ hp => br_t h hp, fun _ _ _ hp => br_t h (hp _ _)⟩
  | succ d ih =>
    intro j hj
    have h : ¬ (15 : Int32) ≤ nI j := nI_ge (b := 15) (by omega) (by decide)
    obtain ⟨s, _, sX, sY⟩ := S l j hl (by omega)
    obtain ⟨q, _, qX, qY⟩ := S l (j + 1) hl (by omega)
    rw [← nI_1 j] at qX qY
    by_cases z : s = q
    · obtain ⟨r, hX, hY⟩ := ih (j + 1) (by omega)
      exact ⟨r, fun post hp => br_f h (sX _ (qX _ (br_t z (nm_r (nI_1 j) (hX post hp))))), fun post t b hp => br_f h (sY _ t b fun t' b' => qY _ t' b' fun t'' b'' => br_t z (nm_r (nI_1 j) (hY post t'' b'' hp)))⟩
    · exact ⟨nI j, fun post hp => br_f h (sX _ (qX _ (br_f z hp))), fun post t b hp => br_f h (sY _ t b fun t' b' => qY _ t' b' fun t'' b'' => br_f z (hp _ _))⟩
end
section
/-! do two walls meet: both sides against one picture -/
def wq_sp (p0 p1 p2 p3 : Int32) : Prop := min p0.toInt p1.toInt ≤ max p2.toInt p3.toInt ∧ min p2.toInt p3.toInt ≤ max p0.toInt p1.toInt
theorem wq_xsp {post : Int32 → Prop} {p0 p1 p2 p3 : Int32} (h1 : wq_sp p0 p1 p2 p3 → post 1) (h0 : ¬ wq_sp p0 p1 p2 p3 → post 0) : wpX_spansMeet post p0 p1 p2 p3 := by
  have e36 : ∀ hi : Int32, hi.toInt = max p0.toInt p1.toInt → min p0.toInt p1.toInt ≤ max p2.toInt p3.toInt → wX_spansMeet_36 post p2 p3 hi := by
    intro hi eh L
    refine br_c (fun a => h1 ?_) (fun a => br_c (fun b => h0 ?_) (fun b => h1 ?_))
    all_goals
      unfold wq_sp
      simp only [Int32.lt_iff_toInt_lt, Int32.le_iff_toInt_le] at *
      omega
  have e22 : ∀ lo hi : Int32, lo.toInt = min p0.toInt p1.toInt → hi.toInt = max p0.toInt p1.toInt → wX_spansMeet_22 post p2 p3 lo hi := by
    intro lo hi el eh
    refine br_c (fun a => e36 hi eh ?_) (fun a => br_c (fun b => h0 ?_) (fun b => e36 hi eh ?_))
    · rw [Int32.le_iff_toInt_le] at a
      omega
    · unfold wq_sp
      simp only [Int32.lt_iff_toInt_lt, Int32.le_iff_toInt_le] at a b
      omega
    · simp only [Int32.lt_iff_toInt_lt, Int32.le_iff_toInt_le] at a b
      omega
  have e10 : ∀ lo : Int32, lo.toInt = min p0.toInt p1.toInt → wX_spansMeet_10 post p0 p1 p2 p3 lo := by
    intro lo el
    refine br_c (fun a => e22 lo p0 el ?_) (fun a => e22 lo p1 el ?_)
    all_goals
      rw [Int32.le_iff_toInt_le] at a
      omega
  refine br_c (fun a => e10 p1 ?_) (fun a => e10 p0 ?_)
  all_goals
    rw [Int32.le_iff_toInt_le] at a
    omega
theorem wq_yle {post : Int32 → Prop} {v : SY} {p0 p1 : Int32} (h : ∀ m : Int32, m.toInt = min p0.toInt p1.toInt → post m) : wpY_least post v p0 p1 := by
  refine br_c (fun a => h p1 ?_) (fun a => h p0 ?_)
  all_goals
    rw [Int32.le_iff_toInt_le] at a
    omega
theorem wq_ymo {post : Int32 → Prop} {v : SY} {p0 p1 : Int32} (h : ∀ m : Int32, m.toInt = max p0.toInt p1.toInt → post m) : wpY_most post v p0 p1 := by
  refine br_c (fun a => h p1 ?_) (fun a => h p0 ?_)
  all_goals
    rw [Int32.le_iff_toInt_le] at a
    omega
theorem wq_k0 (n k : Nat) : 4 * nI n + nI k = nI (4 * n + k) := by
  rw [wq_4]
  exact nI_add _ _
theorem wq_k2 (n k : Nat) : 4 * nI n + nI k + 2 = nI (4 * n + k + 2) := by
  rw [wq_k0]
  exact nI_add _ 2
theorem wq_yrm (k : Nat) (hk : k < 2) {post : Int32 → Prop} {n m : Nat} (hn : n < 10) (hm : m < 10) {w vx vy t b p0 p1 p2 p3 : Int32} {e : Nat → Int32} (e0 : e (4 * n + k) = p0) (e1 : e (4 * n + k + 2) = p1) (e2 : e (4 * m + k) = p2) (e3 : e (4 * m + k + 2) = p3) (h1 : wq_sp p2 p3 p0 p1 → post 1) (h0 : ¬ wq_sp p2 p3 p0 p1 → post 0) : wpY_rangesMeet post (w, vx, vy, t, b, e) (nI n) (nI m) (nI k) := by
  have i0 : vp_in (4 * nI n + nI k) 40 := pk_in (4 * n + k) 40 (by omega) (wq_k0 n k)
  have i1 : vp_in (4 * nI n + nI k + 2) 40 := pk_in (4 * n + k + 2) 40 (by omega) (wq_k2 n k)
  have i2 : vp_in (4 * nI m + nI k) 40 := pk_in (4 * m + k) 40 (by omega) (wq_k0 m k)
  have i3 : vp_in (4 * nI m + nI k + 2) 40 := pk_in (4 * m + k + 2) 40 (by omega) (wq_k2 m k)
  have c0 : (4 * nI n + nI k).toNatClampNeg = 4 * n + k := pk_cl _ (wq_k0 n k)
  have c1 : (4 * nI n + nI k + 2).toNatClampNeg = 4 * n + k + 2 := pk_cl _ (wq_k2 n k)
  have c2 : (4 * nI m + nI k).toNatClampNeg = 4 * m + k := pk_cl _ (wq_k0 m k)
  have c3 : (4 * nI m + nI k + 2).toNatClampNeg = 4 * m + k + 2 := pk_cl _ (wq_k2 m k)
  have f0 : e (4 * nI n + nI k).toNatClampNeg = p0 := by rw [c0]; exact e0
  have f1 : e (4 * nI n + nI k + 2).toNatClampNeg = p1 := by rw [c1]; exact e1
  have f2 : e (4 * nI m + nI k).toNatClampNeg = p2 := by rw [c2]; exact e2
  have f3 : e (4 * nI m + nI k + 2).toNatClampNeg = p3 := by rw [c3]; exact e3
  refine ⟨i0, nm_r f0 ⟨i1, nm_r f1 ⟨i2, nm_r f2 ⟨i3, nm_r f3 (wq_yle fun a ea => wq_ymo fun g eg => br_c (fun s => h0 ?_) (fun s => wq_yle fun a' ea' => wq_ymo fun g' eg' => br_c (fun s' => h0 ?_) (fun s' => h1 ?_)))⟩⟩⟩⟩
  all_goals
    unfold wq_sp
    simp only [Int32.lt_iff_toInt_lt] at *
    omega
def wq_sg (x : Int32) : Int32 := if 0 ≤ x then (if x ≤ 0 then 0 else 1) else (-1)
theorem wq_sg3 (p : Int32) : (wq_sg p = 1 ∧ 0 < p.toInt) ∨ (wq_sg p = 0 ∧ p.toInt = 0) ∨ (wq_sg p = (-1) ∧ p.toInt < 0) := by
  unfold wq_sg
  by_cases a : 0 ≤ p
  · by_cases b : p ≤ 0
    · rw [if_pos a, if_pos b]
      rw [Int32.le_iff_toInt_le, wq_z] at a b
      exact Or.inr (Or.inl ⟨rfl, by omega⟩)
    · rw [if_pos a, if_neg b]
      rw [Int32.le_iff_toInt_le, wq_z] at b
      exact Or.inl ⟨rfl, by omega⟩
  · rw [if_neg a]
    rw [Int32.le_iff_toInt_le, wq_z] at a
    exact Or.inr (Or.inr ⟨rfl, by omega⟩)
theorem wq_sgs (p q : Int32) : 0 < wq_sg p * wq_sg q ↔ ¬ wq_one p q := by
  have o : wq_one p q ↔ ¬ (0 < p.toInt ∧ 0 < q.toInt) ∧ ¬ (p.toInt < 0 ∧ q.toInt < 0) := by
    unfold wq_one
    simp only [Int32.lt_iff_toInt_lt, wq_z]
  rw [o]
  rcases wq_sg3 p with ⟨a, b⟩ | ⟨a, b⟩ | ⟨a, b⟩ <;> rcases wq_sg3 q with ⟨c, d⟩ | ⟨c, d⟩ | ⟨c, d⟩ <;> rw [a, c]
  · exact iff_of_true (by decide) (by omega)
  · exact iff_of_false (by decide) (by omega)
  · exact iff_of_false (by decide) (by omega)
  · exact iff_of_false (by decide) (by omega)
  · exact iff_of_false (by decide) (by omega)
  · exact iff_of_false (by decide) (by omega)
  · exact iff_of_false (by decide) (by omega)
  · exact iff_of_false (by decide) (by omega)
  · exact iff_of_true (by decide) (by omega)
theorem wq_ysd {post : Int32 → Prop} {n : Nat} (hn : n < 10) {w vx vy t b px py : Int32} {e : Nat → Int32} {x y u v : Int32} (E : e (4 * n) = x ∧ e (4 * n + 1) = y ∧ e (4 * n + 2) = u ∧ e (4 * n + 3) = v) (h : post (wq_sg ((u - x) * (py - y) - (v - y) * (px - x)))) : wpY_side post (w, vx, vy, t, b, e) (nI n) px py := by
  obtain ⟨ea, eb, ec, ed⟩ := E
  unfold wpY_side
  dsimp only
  rw [wq_c0 hn, wq_c1 hn, wq_c2 hn, wq_c3 hn, ea, eb, ec, ed]
  refine ⟨wq_i0 hn, nm_e ⟨wq_i1 hn, nm_e ⟨wq_i2 hn, wq_i3 hn, nm_e ?_⟩⟩⟩
  generalize (u - x) * (py - y) - (v - y) * (px - x) = g at h
  unfold wq_sg at h
  refine br_c (fun a => br_c (fun c => ?_) (fun c => ?_)) (fun a => ?_)
  · rw [if_pos a, if_pos c] at h
    exact h
  · rw [if_pos a, if_neg c] at h
    exact h
  · rw [if_neg a] at h
    exact h
/-- wall (a, b) .. (c, d) and the new one (x, y) .. (u, v) meet -/
def wq_me (a b c d x y u v : Int32) : Prop := wq_sp x u a c ∧ wq_sp y v b d ∧ wq_one ((u - x) * (b - y) - (v - y) * (a - x)) ((u - x) * (d - y) - (v - y) * (c - x)) ∧ wq_one ((c - a) * (y - b) - (d - b) * (x - a)) ((c - a) * (v - b) - (d - b) * (u - a))
theorem wq_xme {post : Int32 → Prop} {n : Nat} (hn : n < 10) {w vx vy x y u v : Int32} {fx fy tx ty : Nat → Int32} (h1 : wq_me (fx n) (fy n) (tx n) (ty n) x y u v → post 1) (h0 : ¬ wq_me (fx n) (fy n) (tx n) (ty n) x y u v → post 0) : wpX_meetsWall post (w, vx, vy, fx, fy, tx, ty) (nI n) x y u v := by
  have hi : vp_in (nI n) 10 := vp_in_nI hn (by omega)
  have e : (nI n).toNatClampNeg = n := nI_clamp (by omega)
  unfold wpX_meetsWall wpX_cross
  dsimp only
  rw [e]
  refine ⟨hi, nm_e ⟨hi, nm_e ⟨hi, nm_e ⟨hi, nm_e ?_⟩⟩⟩⟩
  refine wq_xsp (fun s1 => br_f (by decide) (wq_xsp (fun s2 => br_f (by decide) (wq_xone (fun o1 => br_f (by decide) (wq_xone (fun o2 => br_f (by decide) (h1 ⟨s1, s2, o1, o2⟩)) (fun o2 => br_t rfl (h0 fun k => o2 k.2.2.2)))) (fun o1 => br_t rfl (h0 fun k => o1 k.2.2.1)))) (fun s2 => br_t rfl (h0 fun k => s2 k.2.1)))) (fun s1 => br_t rfl (h0 fun k => s1 k.1))
theorem wq_yme {post : Int32 → Prop} {n m : Nat} (hn : n < 10) (hm : m < 10) {w vx vy t s a b c d x y u v : Int32} {e : Nat → Int32} (E : e (4 * n) = a ∧ e (4 * n + 1) = b ∧ e (4 * n + 2) = c ∧ e (4 * n + 3) = d) (F : e (4 * m) = x ∧ e (4 * m + 1) = y ∧ e (4 * m + 2) = u ∧ e (4 * m + 3) = v) (h1 : wq_me a b c d x y u v → post 1) (h0 : ¬ wq_me a b c d x y u v → post 0) : wpY_meet post (w, vx, vy, t, s, e) (nI n) (nI m) := by
  obtain ⟨ea, eb, ec, ed⟩ := E
  obtain ⟨ex, ey, eu, ev⟩ := F
  unfold wpY_meet
  dsimp only
  rw [wq_c0 hn, wq_c1 hn, wq_c2 hn, wq_c3 hn, wq_c0 hm, wq_c1 hm, wq_c2 hm, wq_c3 hm, ea, eb, ec, ed, ex, ey, eu, ev]
  refine ⟨wq_i0 hm, wq_i1 hm, wq_ysd hn ⟨ea, eb, ec, ed⟩ ⟨wq_i2 hm, wq_i3 hm, wq_ysd hn ⟨ea, eb, ec, ed⟩ (nm_e ⟨wq_i0 hn, wq_i1 hn, wq_ysd hm ⟨ex, ey, eu, ev⟩ ⟨wq_i2 hn, wq_i3 hn, wq_ysd hm ⟨ex, ey, eu, ev⟩ (nm_e ?_)⟩⟩)⟩⟩
  refine wq_yrm 0 (by decide) hn hm ea ec ex eu (fun s1 => br_f (by decide) (wq_yrm 1 (by decide) hn hm eb ed ey ev (fun s2 => br_f (by decide) ?_) (fun s2 => br_t rfl (h0 fun k => s2 k.2.1)))) (fun s1 => br_t rfl (h0 fun k => s1 k.1))
  refine br_c (fun z => h0 fun k => (wq_sgs _ _).mp z k.2.2.2) (fun z => br_c (fun z' => h0 fun k => (wq_sgs _ _).mp z' k.2.2.1) (fun z' => h1 ⟨s1, s2, ?_, ?_⟩))
  · exact Classical.byContradiction fun o => z' ((wq_sgs _ _).mpr o)
  · exact Classical.byContradiction fun o => z ((wq_sgs _ _).mpr o)
/-- the loop over the walls that stand -/
theorem wq_any {c : Nat} (hc : c < 10) {vx vy x y u v : Int32} {fx fy tx ty e : Nat → Int32} (W : wq_W c fx fy tx ty e) (F : e (4 * c) = x ∧ e (4 * c + 1) = y ∧ e (4 * c + 2) = u ∧ e (4 * c + 3) = v) :
    ∀ d i, i + d = c → ∃ r : Int32, (r = 0 ∨ r = 1) ∧ (∀ post : Int32 → Prop, post r → wX_meetsAnyWall_3 post x y u v (nI c) vx vy fx fy tx ty (d + 1) (nI i)) ∧ (∀ (post : Int32 → SY → Prop) (t b : Int32), (r = 0 → post (nI c) (nI (c + 1), vx, vy, t, b, e)) → (r = 1 → post (-3) (nI c, vx, vy, t, b, e)) → wY_wall_116 post (nI c) vx vy t b e (d + 1) (nI i)) := by
  intro d
  induction d with
  | zero =>
    intro i hi
    have h : nI c ≤ nI i := nI_le (by omega) (by omega)
    refine ⟨0, Or.inl rfl, fun _ hp => br_t h hp, fun post t b hp _ => br_t h (nm_r (nI_1 c) ?_)⟩
    rw [nI_pred]
    exact hp rfl
  | succ d ih =>
    intro i hi
    have hic : i < c := by omega
    have h : ¬ nI c ≤ nI i := nI_ge hic (by omega)
    obtain ⟨E, M⟩ := W i hic
    by_cases z : wq_me (fx i) (fy i) (tx i) (ty i) x y u v
    · exact ⟨1, Or.inr rfl, fun post hp => br_f h (wq_xme (by omega) (fun _ => br_f (by decide) hp) (fun n => absurd z n)), fun post t b _ hp => br_f h (wq_yme (by omega) hc E F (fun _ => br_f (by decide) (hp rfl)) (fun n => absurd z n))⟩
    · obtain ⟨r, h01, hX, hY⟩ := ih (i + 1) (by omega)
      exact ⟨r, h01, fun post hp => br_f h (wq_xme (by omega) (fun n => absurd n z) (fun _ => br_t rfl (nm_r (nI_1 i) (hX post hp)))), fun post t b hp hq => br_f h (wq_yme (by omega) hc E F (fun n => absurd n z) (fun _ => br_t rfl (nm_r (nI_1 i) (hY post t b hp hq))))⟩
end
section
theorem pk_ix (x : Int32) {n : Nat} (hn : n < 2 ^ 31) : x < 0 ∨ nI n ≤ x ∨ ∃ j : Nat, j < n ∧ x = nI j := by
  by_cases h : x < 0
  · exact Or.inl h
  · obtain ⟨j, hj, rfl⟩ := nI_of h
    by_cases h2 : j < n
    · exact Or.inr (Or.inr ⟨j, h2, rfl⟩)
    · exact Or.inr (Or.inl (nI_le (by omega) hj))
/-! the relation -/
def wq_R (u : SX) (v : SY) : Prop := ∃ (c : Nat) (vx vy t b : Int32) (fx fy tx ty e : Nat → Int32), (c ≤ 10 ∧ wq_M 14 vx ∧ wq_M 14 vy ∧ wq_W c fx fy tx ty e) ∧ u = (nI c, vx, vy, fx, fy, tx, ty) ∧ v = (nI c, vx, vy, t, b, e)
theorem wq_mk {c : Nat} {vx vy t b : Int32} {fx fy tx ty e : Nat → Int32} (h : c ≤ 10 ∧ wq_M 14 vx ∧ wq_M 14 vy ∧ wq_W c fx fy tx ty e) : wq_R (nI c, vx, vy, fx, fy, tx, ty) (nI c, vx, vy, t, b, e) := ⟨c, vx, vy, t, b, fx, fy, tx, ty, e, h, rfl, rfl⟩
/-! points -/
def wq_P (x : Int32) : Prop := ¬ x < (-14) ∧ ¬ 14 < x ∧ (x &&& 1) = 0
def wq_O (x : Int32) : Prop := ¬ x < (-14) ∧ ¬ 14 < x ∧ ¬ (x &&& 1) = 0
theorem wq_14 {x : Int32} (h : ¬ x < (-14)) (h' : ¬ 14 < x) : wq_M 14 x := by
  have a : (-14 : Int32).toInt = -14 := by decide
  have b : (14 : Int32).toInt = 14 := by decide
  unfold wq_M
  rw [Int32.lt_iff_toInt_lt, a] at h
  rw [Int32.lt_iff_toInt_lt, b] at h'
  omega
theorem wq_xpl {post : Int32 → Prop} {x : Int32} (h1 : ¬ x < (-14) ∧ ¬ 14 < x → post 1) (h0 : ¬ (¬ x < (-14) ∧ ¬ 14 < x) → post 0) : wpX_isInPlane post x :=
  br_c (fun a => h0 fun k => k.1 a) (fun a => br_c (fun b => h0 fun k => k.2 b) (fun b => h1 ⟨a, b⟩))
theorem wq_xwp {post : Int32 → Prop} {x y : Int32} (h1 : wq_P x ∧ wq_P y → post 1) (h0 : ¬ (wq_P x ∧ wq_P y) → post 0) : wpX_isWallPoint post x y := by
  unfold wpX_isWallPoint
  refine wq_xpl (fun a => br_f (by decide) (wq_xpl (fun b => br_f (by decide) (br_c (fun c => br_f (by decide) (br_c (fun d => br_f (by decide) (h1 ⟨⟨a.1, a.2, c⟩, b.1, b.2, d⟩)) (fun d => br_t rfl (h0 fun k => d k.2.2.2)))) (fun c => br_t rfl (h0 fun k => c k.1.2.2)))) (fun b => br_t rfl (h0 fun k => b ⟨k.2.1, k.2.2.1⟩)))) (fun a => br_t rfl (h0 fun k => a ⟨k.1.1, k.1.2.1⟩))
theorem wq_yev {post : Int32 → Prop} {v : SY} {x : Int32} (h1 : wq_P x → post 1) (h0 : ¬ wq_P x → post 0) : wpY_isEven post v x :=
  br_c (fun a => h0 fun k => k.1 a) (fun a => br_c (fun b => h0 fun k => k.2.1 b) (fun b => br_c (fun c => h1 ⟨a, b, c⟩) (fun c => h0 fun k => c k.2.2)))
theorem wq_bit (x : Int32) : (x &&& 1) = 1 ↔ ¬ (x &&& 1) = 0 := by
  obtain ⟨j, hj, e⟩ := pk_andE x (m := 1) 1 (by decide)
  rw [e]
  match j, hj with
  | 0, _ => exact iff_of_false (by decide) (by decide)
  | 1, _ => exact iff_of_true (by decide) (by decide)
theorem wq_yod {post : Int32 → Prop} {v : SY} {x : Int32} (h1 : wq_O x → post 1) (h0 : ¬ wq_O x → post 0) : wpY_isOdd post v x :=
  br_c (fun a => h0 fun k => k.1 a) (fun a => br_c (fun b => h0 fun k => k.2.1 b) (fun b => br_c (fun c => h1 ⟨a, b, (wq_bit x).mp c⟩) (fun c => h0 fun k => c ((wq_bit x).mpr k.2.2))))
/-! wall -/
def wq_ok (x y u v : Int32) : Prop := (wq_P x ∧ wq_P y) ∧ (wq_P u ∧ wq_P v) ∧ ¬ (x = u ∧ y = v)
theorem wq_xwall {post : Int32 → SX → Prop} {w vx vy x y u v : Int32} {fx fy tx ty : Nat → Int32} (h1 : wq_ok x y u v → wX_wall_30 post x y u v w vx vy fx fy tx ty) (h0 : ¬ wq_ok x y u v → post (-1) (w, vx, vy, fx, fy, tx, ty)) : wpX_wall post (w, vx, vy, fx, fy, tx, ty) x y u v := by
  unfold wpX_wall
  dsimp only
  refine wq_xwp (fun a => br_f (by decide) (wq_xwp (fun b => br_f (by decide) (br_c (fun c => br_c (fun d => h0 fun k => k.2.2 ⟨c, d⟩) (fun d => h1 ⟨a, b, fun k => d k.2⟩)) (fun c => h1 ⟨a, b, fun k => c k.1⟩))) (fun b => br_t rfl (h0 fun k => b k.2.1)))) (fun a => br_t rfl (h0 fun k => a k.1))
theorem wq_ywall {post : Int32 → SY → Prop} {w vx vy t s x y u v : Int32} {e : Nat → Int32} (h1 : wq_ok x y u v → wY_wall_46 post x y u v w vx vy t s e) (h0 : ¬ wq_ok x y u v → post (-1) (w, vx, vy, t, s, e)) : wpY_wall post (w, vx, vy, t, s, e) x y u v := by
  unfold wpY_wall
  dsimp only
  refine wq_yev (fun a => br_f (by decide) (wq_yev (fun b => br_f (by decide) (wq_yev (fun c => br_f (by decide) (wq_yev (fun d => br_f (by decide) ?_) (fun d => br_t rfl (h0 fun k => d k.2.1.2)))) (fun c => br_t rfl (h0 fun k => c k.2.1.1)))) (fun b => br_t rfl (h0 fun k => b k.1.2)))) (fun a => br_t rfl (h0 fun k => a k.1.1))
  exact br_c (fun f => br_c (fun g => h0 fun k => k.2.2 ⟨f, g⟩) (fun g => h1 ⟨⟨a, b⟩, ⟨c, d⟩, fun k => g k.2⟩)) (fun f => h1 ⟨⟨a, b⟩, ⟨c, d⟩, fun k => f k.1⟩)
/-- the reference's array with a new wall behind the last -/
def wq_put (e : Nat → Int32) (c : Nat) (x y u v : Int32) : Nat → Int32 := upd (upd (upd (upd e (4 * c) x) (4 * c + 1) y) (4 * c + 2) u) (4 * c + 3) v
theorem wq_putn (e : Nat → Int32) {c j : Nat} (x y u v : Int32) (h : j < 4 * c) : wq_put e c x y u v j = e j := by
  unfold wq_put
  rw [pk_un (by omega), pk_un (by omega), pk_un (by omega), pk_un (by omega)]
theorem wq_puts (e : Nat → Int32) (c : Nat) (x y u v : Int32) : wq_put e c x y u v (4 * c) = x ∧ wq_put e c x y u v (4 * c + 1) = y ∧ wq_put e c x y u v (4 * c + 2) = u ∧ wq_put e c x y u v (4 * c + 3) = v := by
  unfold wq_put
  refine ⟨?_, ?_, ?_, pk_us⟩
  · rw [pk_un (by omega), pk_un (by omega), pk_un (by omega), pk_us]
  · rw [pk_un (by omega), pk_un (by omega), pk_us]
  · rw [pk_un (by omega), pk_us]
theorem wq_W0 {c : Nat} {fx fy tx ty e : Nat → Int32} (x y u v : Int32) (W : wq_W c fx fy tx ty e) : wq_W c fx fy tx ty (wq_put e c x y u v) := by
  intro n hn
  rw [wq_putn e x y u v (by omega), wq_putn e x y u v (by omega), wq_putn e x y u v (by omega), wq_putn e x y u v (by omega)]
  exact W n hn
theorem wq_W1 {c : Nat} {fx fy tx ty e : Nat → Int32} {x y u v : Int32} (W : wq_W c fx fy tx ty e) (M : wq_M 14 x ∧ wq_M 14 y ∧ wq_M 14 u ∧ wq_M 14 v) : wq_W (c + 1) (upd fx c x) (upd fy c y) (upd tx c u) (upd ty c v) (wq_put e c x y u v) := by
  intro n hn
  by_cases z : n = c
  · subst z
    rw [pk_us, pk_us, pk_us, pk_us]
    exact ⟨wq_puts e n x y u v, M⟩
  · rw [pk_un z, pk_un z, pk_un z, pk_un z]
    exact wq_W0 x y u v W n (by omega)
theorem wq_wall {c : Nat} {vx vy t b : Int32} {fx fy tx ty e : Nat → Int32} (R : c ≤ 10 ∧ wq_M 14 vx ∧ wq_M 14 vy ∧ wq_W c fx fy tx ty e) (x y u v : Int32) : ∃ (r : Int32) (u' : SX) (v' : SY), wq_R u' v' ∧ (∀ post : Int32 → SX → Prop, post r u' → wpX_wall post (nI c, vx, vy, fx, fy, tx, ty) x y u v) ∧ (∀ post : Int32 → SY → Prop, post r v' → wpY_wall post (nI c, vx, vy, t, b, e) x y u v) := by
  by_cases ok : wq_ok x y u v
  · by_cases h10 : c = 10
    · subst h10
      exact ⟨(-2), _, _, wq_mk (t := t) (b := b) R, fun post hp => wq_xwall (fun _ => br_f (by decide) hp) (fun n => absurd ok n), fun post hp => wq_ywall (fun _ => br_t (by decide) hp) (fun n => absurd ok n)⟩
    · obtain ⟨hc, bx, byy, W⟩ := R
      have hc : c < 10 := by omega
      have hl : nI c < 10 := nI_lt (b := 10) hc (by decide)
      have hn : ¬ nI c = 10 := fun z => h10 ((nI_eq (a := c) (b := 10) (by omega) (by decide)).mp z)
      have hi : vp_in (nI c) 10 := vp_in_nI hc (by decide)
      have ec : (nI c).toNatClampNeg = c := nI_clamp (by omega)
      have M : wq_M 14 x ∧ wq_M 14 y ∧ wq_M 14 u ∧ wq_M 14 v := ⟨wq_14 ok.1.1.1 ok.1.1.2.1, wq_14 ok.1.2.1 ok.1.2.2.1, wq_14 ok.2.1.1.1 ok.2.1.1.2.1, wq_14 ok.2.1.2.1 ok.2.1.2.2.1⟩
      obtain ⟨r, h01, hX, hY⟩ := wq_any (vx := vx) (vy := vy) hc (wq_W0 x y u v W) (wq_puts e c x y u v) c 0 (by omega)
      rw [nI_0] at hX hY
      have YY : ∀ post : Int32 → SY → Prop, (r = 0 → post (nI c) (nI (c + 1), vx, vy, t, b, wq_put e c x y u v)) → (r = 1 → post (-3) (nI c, vx, vy, t, b, wq_put e c x y u v)) → wpY_wall post (nI c, vx, vy, t, b, e) x y u v := by
        intro post hp hq
        refine wq_ywall (fun _ => br_f hn ?_) (fun n => absurd ok n)
        rw [wq_c0 hc, wq_c1 hc, wq_c2 hc, wq_c3 hc]
        exact ⟨wq_i0 hc, nm_e ⟨wq_i1 hc, nm_e ⟨wq_i2 hc, nm_e ⟨wq_i3 hc, nm_e ⟨_, hY post t b hp hq⟩⟩⟩⟩⟩
      rcases h01 with rfl | rfl
      · refine ⟨nI c, _, _, wq_mk (c := c + 1) (t := t) (b := b) ⟨hc, bx, byy, wq_W1 W M⟩, fun post hp => wq_xwall (fun _ => br_t hl ⟨_, hX _ (br_t rfl ?_)⟩) (fun n => absurd ok n), fun post hp => YY post (fun _ => hp) (fun z => absurd z (by decide))⟩
        rw [ec]
        exact ⟨hi, nm_e ⟨hi, nm_e ⟨hi, nm_e ⟨hi, nm_e (nm_r (nI_1 c) hp)⟩⟩⟩⟩
      · exact ⟨(-3), _, _, wq_mk (t := t) (b := b) ⟨by omega, bx, byy, wq_W0 x y u v W⟩, fun post hp => wq_xwall (fun _ => br_t hl ⟨_, hX _ (br_f (by decide) hp)⟩) (fun n => absurd ok n), fun post hp => YY post (fun z => absurd z (by decide)) (fun _ => hp)⟩
  · exact ⟨(-1), _, _, wq_mk (t := t) (b := b) R, fun post hp => wq_xwall (fun z => absurd z ok) (fun _ => hp), fun post hp => wq_ywall (fun z => absurd z ok) (fun _ => hp)⟩
/-! arguments of a ray -/
theorem wq_look (x : Int32) : x < 0 ∨ (¬ x < 0 ∧ 4 ≤ x ∧ 3 < x ∧ ¬ x ≤ 3) ∨ ∃ l : Nat, l < 4 ∧ x = nI l := by
  rcases pk_ix x (n := 4) (by decide) with h | h | h
  · exact Or.inl h
  · have a : (4 : Int32) ≤ x := h
    have b : (3 : Int32) < x := Int32.lt_of_lt_of_le (by decide) a
    exact Or.inr (Or.inl ⟨fun z => absurd (Int32.lt_of_lt_of_le z (Int32.le_trans (by decide) a)) (Int32.lt_irrefl), a, b, fun z => absurd (Int32.lt_of_lt_of_le b z) (Int32.lt_irrefl)⟩)
  · exact Or.inr (Or.inr h)
theorem wq_col (x : Int32) : x < 0 ∨ (¬ x < 0 ∧ 16 ≤ x ∧ 15 < x) ∨ ∃ k : Nat, k < 16 ∧ x = nI k := by
  rcases pk_ix x (n := 16) (by decide) with h | h | h
  · exact Or.inl h
  · have a : (16 : Int32) ≤ x := h
    have b : (15 : Int32) < x := Int32.lt_of_lt_of_le (by decide) a
    exact Or.inr (Or.inl ⟨fun z => absurd (Int32.lt_of_lt_of_le z (Int32.le_trans (by decide) a)) (Int32.lt_irrefl), a, b⟩)
  · exact Or.inr (Or.inr h)
theorem wq_xlk {post : Int32 → Prop} {l : Nat} (hl : l < 4) (h : post 1) : wpX_isLook post (nI l) := br_f (nI_pos (by omega)) (br_f (nI_ge (b := 4) hl (by decide)) h)
theorem wq_xcl {post : Int32 → Prop} {k : Nat} (hk : k < 16) (h : post 1) : wpX_isColumn post (nI k) := br_f (nI_pos (by omega)) (br_f (nI_ge (b := 16) hk (by decide)) h)
/-- look and column out of range: -1 on both sides; else one of the 64 rays -/
theorem wq_ray (p q : Int32) : (∃ l k : Nat, (l < 4 ∧ k < 16) ∧ p = nI l ∧ q = nI k) ∨ ((∀ A B : Prop, A → wpX_isLook (fun r => (r = 0 → A) ∧ (¬ r = 0 → wpX_isColumn (fun r => (r = 0 → A) ∧ (¬ r = 0 → B)) q)) p) ∧ (∀ (v : SY) (post : Int32 → Prop), post 0 → wpY_isRay post v p q)) := by
  rcases wq_look p with h | ⟨h0, h4, h3, _⟩ | ⟨l, hl, rfl⟩
  · exact Or.inr ⟨fun A B a => br_t h (br_t rfl a), fun v post hp => br_t h hp⟩
  · exact Or.inr ⟨fun A B a => br_f h0 (br_t h4 (br_t rfl a)), fun v post hp => br_f h0 (br_t h3 hp)⟩
  · have g0 : ¬ nI l < 0 := nI_pos (by omega)
    have g3 : ¬ 3 < nI l := nI_nlt (b := l) (a := 3) (by omega) (by decide)
    rcases wq_col q with h | ⟨h0, h4, h3⟩ | ⟨k, hk, rfl⟩
    · exact Or.inr ⟨fun A B a => wq_xlk hl (br_f (by decide) (br_t h (br_t rfl a))), fun v post hp => br_f g0 (br_f g3 (br_t h hp))⟩
    · exact Or.inr ⟨fun A B a => wq_xlk hl (br_f (by decide) (br_f h0 (br_t h4 (br_t rfl a)))), fun v post hp => br_f g0 (br_f g3 (br_f h0 (br_t h3 hp)))⟩
    · exact Or.inl ⟨l, k, ⟨hl, hk⟩, rfl, rfl⟩
end
section
/-- counts, viewpoint and walls alike, all coordinates from -14 to 14; the reference's scratch fields and what lies behind its last wall are free -/
def i_Rel (k : Nat) (u : SX) (v : SY) : Prop := wq_R u v
theorem i_up {k : Nat} {u : SX} {v : SY} (h : i_Rel k u v) : i_Rel (k + 5) u v := h
theorem i_vc0 : wpX_init (fun u => wpY_init (fun v => i_Rel 0 u v)) := by
  have M : wq_M 14 1 := by
    unfold wq_M
    decide
  exact wq_mk (c := 0) ⟨by decide, M, M, fun n hn => absurd hn (Nat.not_lt_zero n)⟩
theorem i_vc_wall {k : Nat} {u : SX} {v : SY} (I : i_Rel k u v) (hk : k + 5 ≤ 2560) (v1 : Int32) (v2 : Int32) (v3 : Int32) (v4 : Int32) : wpX_wall (fun r u' => wpY_wall (fun r' v' => r' = r ∧ i_Rel (k + 5) u' v') v v1 v2 v3 v4) u v1 v2 v3 v4 := by
  obtain ⟨c, vx, vy, t, b, fx, fy, tx, ty, e, R, rfl, rfl⟩ := I
  obtain ⟨r, u', v', R', hX, hY⟩ := wq_wall (t := t) (b := b) R v1 v2 v3 v4
  exact hX _ (hY _ ⟨rfl, R'⟩)
theorem i_vc_unbuild {k : Nat} {u : SX} {v : SY} (I : i_Rel k u v) (hk : k + 5 ≤ 2560) : wpX_unbuild (fun r u' => wpY_unbuild (fun r' v' => r' = r ∧ i_Rel (k + 5) u' v') v) u := by
  obtain ⟨c, vx, vy, t, b, fx, fy, tx, ty, e, R, rfl, rfl⟩ := I
  match c, R with
  | 0, R => exact br_t nI_0 (br_t nI_0 ⟨rfl, wq_mk R⟩)
  | c + 1, R =>
    have h : ¬ nI (c + 1) = 0 := nI_ne0 (by omega) (by omega)
    exact br_f h (nm_r (nI_pred c) (br_f h (nm_r (nI_pred c) ⟨rfl, wq_mk ⟨by omega, R.2.1, R.2.2.1, fun n hn => R.2.2.2 n (by omega)⟩⟩)))
theorem i_vc_walls {k : Nat} {u : SX} {v : SY} (I : i_Rel k u v) (hk : k + 5 ≤ 2560) : wpX_walls (fun r => wpY_walls (fun r' => r' = r ∧ i_Rel (k + 5) u v) v) u := by
  obtain ⟨c, vx, vy, t, b, fx, fy, tx, ty, e, R, rfl, rfl⟩ := I
  exact ⟨rfl, wq_mk R⟩
theorem i_vc_coordinate {k : Nat} {u : SX} {v : SY} (I : i_Rel k u v) (hk : k + 5 ≤ 2560) (v1 : Int32) (v2 : Int32) : wpX_coordinate (fun r => wpY_coordinate (fun r' => r' = r ∧ i_Rel (k + 5) u v) v v1 v2) u v1 v2 := by
  obtain ⟨c, vx, vy, t, b, fx, fy, tx, ty, e, R, rfl, rfl⟩ := I
  have R' := wq_mk (t := t) (b := b) R
  obtain ⟨hc, _, _, W⟩ := R
  unfold wpX_coordinate wpY_coordinate
  dsimp only
  rcases pk_ix v1 (n := c) (by omega) with h | h | ⟨n, hn, rfl⟩
  · exact br_t h (br_t rfl (br_t h ⟨rfl, R'⟩))
  · have h0 : ¬ v1 < 0 := fun z => nI_pos (n := c) (by omega) (Int32.lt_of_le_of_lt h z)
    exact br_f h0 (br_t h (br_t rfl (br_f h0 (br_f (Int32.not_lt.mpr h) ⟨rfl, R'⟩))))
  · have h0 : ¬ nI n < 0 := nI_pos (by omega)
    have h1 : ¬ nI c ≤ nI n := nI_ge hn (by omega)
    have h2 : nI n < nI c := nI_lt hn (by omega)
    have hi : vp_in (nI n) 10 := vp_in_nI (by omega) (by decide)
    have en : (nI n).toNatClampNeg = n := nI_clamp (by omega)
    have hn10 : n < 10 := by omega
    obtain ⟨⟨ea, eb, ec, ed⟩, _⟩ := W n hn
    rw [en]
    refine br_f h0 (br_f h1 (br_f (by decide) ?_))
    by_cases a : v2 < 0
    · exact br_t a (br_f h0 (br_t h2 (br_t a ⟨rfl, R'⟩)))
    · by_cases g : 3 < v2
      · exact br_f a (br_t g (br_f h0 (br_t h2 (br_f a (br_f (Int32.not_le.mpr g) ⟨rfl, R'⟩)))))
      · have g' : v2 ≤ 3 := Int32.not_lt.mp g
        obtain ⟨j, hj, rfl⟩ := nI_of2 (M := 3) (n := 3) (by decide) a g'
        have ij : vp_in (4 * nI n + nI j) 40 := pk_in (4 * n + j) 40 (by omega) (wq_k0 n j)
        have cj : (4 * nI n + nI j).toNatClampNeg = 4 * n + j := pk_cl _ (wq_k0 n j)
        rw [cj]
        refine br_f a (br_f g ?_)
        match j, hj, a, g, g', ij with
        | 0, _, a, g, g', ij => exact br_t (by decide) ⟨hi, br_f h0 (br_t h2 (br_f a (br_t g' ⟨ij, ea, R'⟩)))⟩
        | 1, _, a, g, g', ij => exact br_f (by decide) (br_t (by decide) ⟨hi, br_f h0 (br_t h2 (br_f a (br_t g' ⟨ij, eb, R'⟩)))⟩)
        | 2, _, a, g, g', ij => exact br_f (by decide) (br_f (by decide) (br_t (by decide) ⟨hi, br_f h0 (br_t h2 (br_f a (br_t g' ⟨ij, ec, R'⟩)))⟩))
        | 3, _, a, g, g', ij => exact br_f (by decide) (br_f (by decide) (br_f (by decide) (br_t (by decide) ⟨hi, br_f h0 (br_t h2 (br_f a (br_t g' ⟨ij, ed, R'⟩)))⟩)))
theorem i_vc_look {k : Nat} {u : SX} {v : SY} (I : i_Rel k u v) (hk : k + 5 ≤ 2560) (v1 : Int32) (v2 : Int32) : wpX_look (fun r u' => wpY_look (fun r' v' => r' = r ∧ i_Rel (k + 5) u' v') v v1 v2) u v1 v2 := by
  obtain ⟨c, vx, vy, t, b, fx, fy, tx, ty, e, R, rfl, rfl⟩ := I
  have R' := wq_mk (t := t) (b := b) R
  obtain ⟨hc, _, _, W⟩ := R
  unfold wpX_look wpY_look
  dsimp only
  refine wq_xpl (fun a => br_f (by decide) (wq_xpl (fun b => br_f (by decide) (br_c (fun s => br_f (by decide) ?_) (fun s => br_t rfl (br_c (fun s' => br_f (by decide) ?_) (fun s' => br_t rfl ?_))))) (fun b => br_t rfl ?_))) (fun a => br_t rfl ?_)
  · exact wq_yod (fun o => absurd s o.2.2) (fun _ => br_t rfl ⟨rfl, R'⟩)
  · exact wq_yod (fun _ => br_f (by decide) (wq_yod (fun o => absurd s' o.2.2) (fun _ => br_t rfl ⟨rfl, R'⟩))) (fun _ => br_t rfl ⟨rfl, R'⟩)
  · exact wq_yod (fun _ => br_f (by decide) (wq_yod (fun _ => br_f (by decide) ⟨rfl, wq_mk ⟨hc, wq_14 a.1 a.2, wq_14 b.1 b.2, W⟩⟩) (fun o => absurd ⟨b.1, b.2, s'⟩ o))) (fun o => absurd ⟨a.1, a.2, s⟩ o)
  · exact wq_yod (fun _ => br_f (by decide) (wq_yod (fun o => absurd ⟨o.1, o.2.1⟩ b) (fun _ => br_t rfl ⟨rfl, R'⟩))) (fun _ => br_t rfl ⟨rfl, R'⟩)
  · exact wq_yod (fun o => absurd ⟨o.1, o.2.1⟩ a) (fun _ => br_t rfl ⟨rfl, R'⟩)
theorem i_vc_viewpoint {k : Nat} {u : SX} {v : SY} (I : i_Rel k u v) (hk : k + 5 ≤ 2560) : wpX_viewpoint (fun r => wpY_viewpoint (fun r' => r' = r ∧ i_Rel (k + 5) u v) v) u := by
  obtain ⟨c, vx, vy, t, b, fx, fy, tx, ty, e, R, rfl, rfl⟩ := I
  exact ⟨rfl, wq_mk R⟩
theorem i_vc_seen {k : Nat} {u : SX} {v : SY} (I : i_Rel k u v) (hk : k + 5 ≤ 2560) (v1 : Int32) (v2 : Int32) : wpX_seen (fun r => wpY_seen (fun r' v' => r' = r ∧ i_Rel (k + 5) u v') v v1 v2) u v1 v2 := by
  obtain ⟨c, vx, vy, t, b, fx, fy, tx, ty, e, R, rfl, rfl⟩ := I
  have S := wq_see R.1 R.2.1 R.2.2.1 R.2.2.2
  unfold wpX_seen
  dsimp only
  rcases wq_ray v1 v2 with ⟨l, q, ⟨hl, hq⟩, rfl, rfl⟩ | ⟨hX, hY⟩
  · obtain ⟨s, _, sX, sY⟩ := S l q hl hq
    exact wq_xlk hl (br_f (by decide) (wq_xcl hq (br_f (by decide) (sX _ (sY _ t b fun t' b' => ⟨rfl, wq_mk R⟩)))))
  · refine hX _ _ ?_
    unfold wpY_seen
    dsimp only
    exact hY _ _ (br_t rfl ⟨rfl, wq_mk R⟩)
theorem i_vc_depth {k : Nat} {u : SX} {v : SY} (I : i_Rel k u v) (hk : k + 5 ≤ 2560) (v1 : Int32) (v2 : Int32) : wpX_depth (fun r => wpY_depth (fun r' v' => r' = r ∧ i_Rel (k + 5) u v') v v1 v2) u v1 v2 := by
  obtain ⟨c, vx, vy, t, b, fx, fy, tx, ty, e, R, rfl, rfl⟩ := I
  have S := wq_see R.1 R.2.1 R.2.2.1 R.2.2.2
  unfold wpX_depth
  dsimp only
  rcases wq_ray v1 v2 with ⟨l, q, ⟨hl, hq⟩, rfl, rfl⟩ | ⟨hX, hY⟩
  · obtain ⟨s, G, sX, sY⟩ := S l q hl hq
    refine wq_xlk hl (br_f (by decide) (wq_xcl hq (br_f (by decide) (sX _ ?_))))
    rcases G with rfl | ⟨n, hn, rfl, H⟩
    · refine br_t (by decide) (br_t rfl ?_)
      unfold wpY_depth
      dsimp only
      exact sY _ t b fun t' b' => br_f (by decide) ⟨rfl, wq_mk R⟩
    · have hc := R.1
      have hn10 : n < 10 := by omega
      obtain ⟨E, M⟩ := R.2.2.2 n hn
      have D : wq_D (fx n) (fy n) (tx n) (ty n) vx vy (wq_rx l q) (wq_ry l q) := ⟨M, ⟨R.2.1, R.2.2.1⟩, wq_Bx hl hq, wq_By hl hq⟩
      have hB : ¬ wq_B (fx n) (fy n) (tx n) (ty n) (wq_rx l q) (wq_ry l q) ≤ 0 := Int32.not_le.mpr H.1
      have hB0 : ¬ wq_B (fx n) (fy n) (tx n) (ty n) (wq_rx l q) (wq_ry l q) = 0 := by
        intro z
        rw [z] at hB
        exact hB (by decide)
      have hb : ¬ wq_b (fx n) (fy n) (tx n) (ty n) (wq_rx l q) (wq_ry l q) = 0 := by
        intro z
        apply hB0
        unfold wq_B
        rw [z]
        decide
      refine br_f (nI_pos (by omega)) (br_f (nI_ge hn (by omega)) (br_f (by decide) (wq_xrx hl (wq_xry hl (wq_xbot hn10 (br_f hb (wq_xtop hn10 ⟨hb, ?_⟩)))))))
      unfold wpY_depth
      dsimp only
      exact sY _ t b fun t' b' => br_t (nI_pos' (by omega)) (wq_yhits hn10 hl E (fun _ => br_f (by decide) (br_f hB ⟨hB0, (wq_quot D).symm, wq_mk R⟩)) (fun z => absurd H z))
  · refine hX _ _ ?_
    unfold wpY_depth wpY_seen
    dsimp only
    exact hY _ _ (br_t rfl (br_f (by decide) ⟨rfl, wq_mk R⟩))
theorem i_vc_share {k : Nat} {u : SX} {v : SY} (I : i_Rel k u v) (hk : k + 5 ≤ 2560) (v1 : Int32) : wpX_share (fun r => wpY_share (fun r' v' => r' = r ∧ i_Rel (k + 5) u v') v v1) u v1 := by
  obtain ⟨c, vx, vy, t, b, fx, fy, tx, ty, e, R, rfl, rfl⟩ := I
  have S := wq_see R.1 R.2.1 R.2.2.1 R.2.2.2
  have hc := R.1
  unfold wpX_share wpY_share
  dsimp only
  rcases pk_ix v1 (n := c) (by omega) with h | h | ⟨n, hn, rfl⟩
  · exact br_t h (br_t rfl (br_t h ⟨rfl, wq_mk R⟩))
  · have h0 : ¬ v1 < 0 := fun z => nI_pos (n := c) (by omega) (Int32.lt_of_le_of_lt h z)
    exact br_f h0 (br_t h (br_t rfl (br_f h0 (br_f (Int32.not_lt.mpr h) ⟨rfl, wq_mk R⟩))))
  · have h0 : ¬ nI n < 0 := nI_pos (by omega)
    obtain ⟨r, rX, rY⟩ := wq_rays S (nI n)
    exact br_f h0 (br_f (nI_ge hn (by omega)) (br_f (by decide) (rX _ (br_f h0 (br_t (nI_lt hn (by omega)) (rY _ t b fun t' b' => ⟨rfl, wq_mk R⟩))))))
theorem i_vc_openRays {k : Nat} {u : SX} {v : SY} (I : i_Rel k u v) (hk : k + 5 ≤ 2560) : wpX_openRays (fun r => wpY_openRays (fun r' v' => r' = r ∧ i_Rel (k + 5) u v') v) u := by
  obtain ⟨c, vx, vy, t, b, fx, fy, tx, ty, e, R, rfl, rfl⟩ := I
  obtain ⟨r, rX, rY⟩ := wq_rays (wq_see R.1 R.2.1 R.2.2.1 R.2.2.2) (-4)
  unfold wpX_openRays wpY_openRays
  dsimp only
  exact rX _ (rY _ t b fun t' b' => ⟨rfl, wq_mk R⟩)
theorem i_vc_visible {k : Nat} {u : SX} {v : SY} (I : i_Rel k u v) (hk : k + 5 ≤ 2560) (v1 : Int32) : wpX_visible (fun r => wpY_visible (fun r' v' => r' = r ∧ i_Rel (k + 5) u v') v v1) u v1 := by
  obtain ⟨c, vx, vy, t, b, fx, fy, tx, ty, e, R, rfl, rfl⟩ := I
  have S := wq_see R.1 R.2.1 R.2.2.1 R.2.2.2
  unfold wpX_visible wpY_visible
  dsimp only
  rcases wq_look v1 with h | ⟨h0, h4, _, h3⟩ | ⟨l, hl, rfl⟩
  · exact br_t h (br_t rfl (br_t h ⟨rfl, wq_mk R⟩))
  · exact br_f h0 (br_t h4 (br_t rfl (br_f h0 (br_f h3 ⟨rfl, wq_mk R⟩))))
  · obtain ⟨r, rX, rY⟩ := wq_vis R.1 S hl c 0 (by omega) 0
    rw [nI_0] at rX rY
    exact wq_xlk hl (br_f (by decide) ⟨_, rX _ (br_f (nI_pos (by omega)) (br_t (nI_le (b := 3) (by omega) (by decide)) ⟨_, rY _ t b fun t' b' => ⟨rfl, wq_mk R⟩⟩))⟩)
theorem i_vc_edge {k : Nat} {u : SX} {v : SY} (I : i_Rel k u v) (hk : k + 5 ≤ 2560) (v1 : Int32) : wpX_edge (fun r => wpY_edge (fun r' v' => r' = r ∧ i_Rel (k + 5) u v') v v1) u v1 := by
  obtain ⟨c, vx, vy, t, b, fx, fy, tx, ty, e, R, rfl, rfl⟩ := I
  have S := wq_see R.1 R.2.1 R.2.2.1 R.2.2.2
  unfold wpX_edge wpY_edge
  dsimp only
  rcases wq_look v1 with h | ⟨h0, h4, _, h3⟩ | ⟨l, hl, rfl⟩
  · exact br_t h (br_t rfl (br_t h ⟨rfl, wq_mk R⟩))
  · exact br_f h0 (br_t h4 (br_t rfl (br_f h0 (br_f h3 ⟨rfl, wq_mk R⟩))))
  · obtain ⟨r, rX, rY⟩ := wq_edge S hl 15 0 (by omega)
    rw [nI_0] at rX rY
    exact wq_xlk hl (br_f (by decide) ⟨_, rX _ (br_f (nI_pos (by omega)) (br_t (nI_le (b := 3) (by omega) (by decide)) ⟨_, rY _ t b fun t' b' => ⟨rfl, wq_mk R⟩⟩))⟩)
end

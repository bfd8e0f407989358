/-! the walls of both sides: the class's four arrays and the reference's one -/
def wq_W (c : Nat) (fx fy tx ty e : Nat → Int32) : Prop := ∀ n, n < c → (e (4 * n) = fx n ∧ e (4 * n + 1) = fy n ∧ e (4 * n + 2) = tx n ∧ e (4 * n + 3) = ty n) ∧ wq_M 14 (fx n) ∧ wq_M 14 (fy n) ∧ wq_M 14 (tx n) ∧ wq_M 14 (ty n)
theorem wq_4 (n : Nat) : 4 * nI n = nI (4 * n) := pk_mul 4 n
theorem wq_41 (n : Nat) : 4 * nI n + 1 = nI (4 * n + 1) := by
  rw [wq_4]
  exact nI_add _ 1
theorem wq_42 (n : Nat) : 4 * nI n + 2 = nI (4 * n + 2) := by
  rw [wq_4]
  exact nI_add _ 2
theorem wq_43 (n : Nat) : 4 * nI n + 3 = nI (4 * n + 3) := by
  rw [wq_4]
  exact nI_add _ 3
theorem wq_i0 {n : Nat} (h : n < 10) : vp_in (4 * nI n) 40 := pk_in (4 * n) 40 (by omega) (wq_4 n)
theorem wq_i1 {n : Nat} (h : n < 10) : vp_in (4 * nI n + 1) 40 := pk_in (4 * n + 1) 40 (by omega) (wq_41 n)
theorem wq_i2 {n : Nat} (h : n < 10) : vp_in (4 * nI n + 2) 40 := pk_in (4 * n + 2) 40 (by omega) (wq_42 n)
theorem wq_i3 {n : Nat} (h : n < 10) : vp_in (4 * nI n + 3) 40 := pk_in (4 * n + 3) 40 (by omega) (wq_43 n)
theorem wq_c0 {n : Nat} (h : n < 10) : (4 * nI n).toNatClampNeg = 4 * n := pk_cl _ (wq_4 n)
theorem wq_c1 {n : Nat} (h : n < 10) : (4 * nI n + 1).toNatClampNeg = 4 * n + 1 := pk_cl _ (wq_41 n)
theorem wq_c2 {n : Nat} (h : n < 10) : (4 * nI n + 2).toNatClampNeg = 4 * n + 2 := pk_cl _ (wq_42 n)
theorem wq_c3 {n : Nat} (h : n < 10) : (4 * nI n + 3).toNatClampNeg = 4 * n + 3 := pk_cl _ (wq_43 n)
/-! the rays -/
def wq_rx (l k : Nat) : Int32 := if l = 0 then 16 else if l = 1 then - (2 * nI k - 15) else if l = 2 then (-16) else 2 * nI k - 15
def wq_ry (l k : Nat) : Int32 := if l = 0 then 2 * nI k - 15 else if l = 1 then 16 else if l = 2 then - (2 * nI k - 15) else (-16)
theorem wq_rB : ∀ l : Fin 4, ∀ k : Fin 16, (wq_rx l.val k.val).toInt.natAbs ≤ 16 ∧ (wq_ry l.val k.val).toInt.natAbs ≤ 16 := by decide +kernel
theorem wq_Bx {l k : Nat} (hl : l < 4) (hk : k < 16) : wq_M 16 (wq_rx l k) := (wq_rB ⟨l, hl⟩ ⟨k, hk⟩).1
theorem wq_By {l k : Nat} (hl : l < 4) (hk : k < 16) : wq_M 16 (wq_ry l k) := (wq_rB ⟨l, hl⟩ ⟨k, hk⟩).2
theorem wq_xrx {post : Int32 → Prop} {l k : Nat} (hl : l < 4) (h : post (wq_rx l k)) : wpX_rayX post (nI l) (nI k) := by
  match l, hl, h with
  | 0, _, h => exact br_f (by decide) (br_f (by decide) (br_t (by decide) h))
  | 1, _, h => exact br_f (by decide) (br_f (by decide) (br_f (by decide) (br_t (by decide) h)))
  | 2, _, h => exact br_f (by decide) (br_f (by decide) (br_f (by decide) (br_f (by decide) (br_t (by decide) h))))
  | 3, _, h => exact br_f (by decide) (br_t (by decide) h)
theorem wq_xry {post : Int32 → Prop} {l k : Nat} (hl : l < 4) (h : post (wq_ry l k)) : wpX_rayY post (nI l) (nI k) := by
  match l, hl, h with
  | 0, _, h => exact br_f (by decide) (br_f (by decide) (br_t (by decide) h))
  | 1, _, h => exact br_f (by decide) (br_f (by decide) (br_f (by decide) (br_t (by decide) h)))
  | 2, _, h => exact br_f (by decide) (br_f (by decide) (br_f (by decide) (br_f (by decide) (br_t (by decide) h))))
  | 3, _, h => exact br_f (by decide) (br_t (by decide) h)
theorem wq_yrx {post : Int32 → Prop} {l k : Nat} (hl : l < 4) {w vx vy t b : Int32} {e : Nat → Int32} (h : post (wq_rx l k)) : wpY_rayX post (w, vx, vy, t, b, e) (nI l) (nI k) := by
  match l, hl, h with
  | 0, _, h => exact nm_e (br_t (by decide) h)
  | 1, _, h => exact nm_e (br_f (by decide) (br_t (by decide) h))
  | 2, _, h => exact nm_e (br_f (by decide) (br_f (by decide) (br_t (by decide) h)))
  | 3, _, h => exact nm_e (br_f (by decide) (br_f (by decide) (br_f (by decide) h)))
theorem wq_yry {post : Int32 → Prop} {l k : Nat} (hl : l < 4) {w vx vy t b : Int32} {e : Nat → Int32} (h : post (wq_ry l k)) : wpY_rayY post (w, vx, vy, t, b, e) (nI l) (nI k) := by
  match l, hl, h with
  | 0, _, h => exact nm_e (br_t (by decide) h)
  | 1, _, h => exact nm_e (br_f (by decide) (br_t (by decide) h))
  | 2, _, h => exact nm_e (br_f (by decide) (br_f (by decide) (br_t (by decide) h)))
  | 3, _, h => exact nm_e (br_f (by decide) (br_f (by decide) (br_f (by decide) h)))

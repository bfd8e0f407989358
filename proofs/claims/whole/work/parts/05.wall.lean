/-! do two walls meet: both sides against one picture -/
def wq_sp (p0 p1 p2 p3 : Int32) : Prop := min p0.toInt p1.toInt ≤ max p2.toInt p3.toInt ∧ min p2.toInt p3.toInt ≤ max p0.toInt p1.toInt
theorem wq_xsp {post : Int32 → Prop} {p0 p1 p2 p3 : Int32} (h1 : wq_sp p0 p1 p2 p3 → post 1) (h0 : ¬ wq_sp p0 p1 p2 p3 → post 0) : wpX_spansMeet post p0 p1 p2 p3 := by
  have e36 : ∀ hi : Int32, hi.toInt = max p0.toInt p1.toInt → min p0.toInt p1.toInt ≤ max p2.toInt p3.toInt → wX_spansMeet_36 post p2 p3 hi := by
    intro hi eh L
    refine br_c (fun a => h1 ?_) (fun a => br_c (fun b => h0 ?_) (fun b => h1 ?_))
    all_goals
      unfold wq_sp
      simp only [Int32.lt_iff_toInt_lt, Int32.le_iff_toInt_le] at *
      omega
  have e22 : ∀ lo hi : Int32, lo.toInt = min p0.toInt p1.toInt → hi.toInt = max p0.toInt p1.toInt → wX_spansMeet_22 post p2 p3 lo hi := by
    intro lo hi el eh
    refine br_c (fun a => e36 hi eh ?_) (fun a => br_c (fun b => h0 ?_) (fun b => e36 hi eh ?_))
    · rw [Int32.le_iff_toInt_le] at a
      omega
    · unfold wq_sp
      simp only [Int32.lt_iff_toInt_lt, Int32.le_iff_toInt_le] at a b
      omega
    · simp only [Int32.lt_iff_toInt_lt, Int32.le_iff_toInt_le] at a b
      omega
  have e10 : ∀ lo : Int32, lo.toInt = min p0.toInt p1.toInt → wX_spansMeet_10 post p0 p1 p2 p3 lo := by
    intro lo el
    refine br_c (fun a => e22 lo p0 el ?_) (fun a => e22 lo p1 el ?_)
    all_goals
      rw [Int32.le_iff_toInt_le] at a
      omega
  refine br_c (fun a => e10 p1 ?_) (fun a => e10 p0 ?_)
  all_goals
    rw [Int32.le_iff_toInt_le] at a
    omega
theorem wq_yle {post : Int32 → Prop} {v : SY} {p0 p1 : Int32} (h : ∀ m : Int32, m.toInt = min p0.toInt p1.toInt → post m) : wpY_least post v p0 p1 := by
  refine br_c (fun a => h p1 ?_) (fun a => h p0 ?_)
  all_goals
    rw [Int32.le_iff_toInt_le] at a
    omega
theorem wq_ymo {post : Int32 → Prop} {v : SY} {p0 p1 : Int32} (h : ∀ m : Int32, m.toInt = max p0.toInt p1.toInt → post m) : wpY_most post v p0 p1 := by
  refine br_c (fun a => h p1 ?_) (fun a => h p0 ?_)
  all_goals
    rw [Int32.le_iff_toInt_le] at a
    omega
theorem wq_k0 (n k : Nat) : 4 * nI n + nI k = nI (4 * n + k) := by
  rw [wq_4]
  exact nI_add _ _
theorem wq_k2 (n k : Nat) : 4 * nI n + nI k + 2 = nI (4 * n + k + 2) := by
  rw [wq_k0]
  exact nI_add _ 2
theorem wq_yrm (k : Nat) (hk : k < 2) {post : Int32 → Prop} {n m : Nat} (hn : n < 10) (hm : m < 10) {w vx vy t b p0 p1 p2 p3 : Int32} {e : Nat → Int32} (e0 : e (4 * n + k) = p0) (e1 : e (4 * n + k + 2) = p1) (e2 : e (4 * m + k) = p2) (e3 : e (4 * m + k + 2) = p3) (h1 : wq_sp p2 p3 p0 p1 → post 1) (h0 : ¬ wq_sp p2 p3 p0 p1 → post 0) : wpY_rangesMeet post (w, vx, vy, t, b, e) (nI n) (nI m) (nI k) := by
  have i0 : vp_in (4 * nI n + nI k) 40 := pk_in (4 * n + k) 40 (by omega) (wq_k0 n k)
  have i1 : vp_in (4 * nI n + nI k + 2) 40 := pk_in (4 * n + k + 2) 40 (by omega) (wq_k2 n k)
  have i2 : vp_in (4 * nI m + nI k) 40 := pk_in (4 * m + k) 40 (by omega) (wq_k0 m k)
  have i3 : vp_in (4 * nI m + nI k + 2) 40 := pk_in (4 * m + k + 2) 40 (by omega) (wq_k2 m k)
  have c0 : (4 * nI n + nI k).toNatClampNeg = 4 * n + k := pk_cl _ (wq_k0 n k)
  have c1 : (4 * nI n + nI k + 2).toNatClampNeg = 4 * n + k + 2 := pk_cl _ (wq_k2 n k)
  have c2 : (4 * nI m + nI k).toNatClampNeg = 4 * m + k := pk_cl _ (wq_k0 m k)
  have c3 : (4 * nI m + nI k + 2).toNatClampNeg = 4 * m + k + 2 := pk_cl _ (wq_k2 m k)
  have f0 : e (4 * nI n + nI k).toNatClampNeg = p0 := by rw [c0]; exact e0
  have f1 : e (4 * nI n + nI k + 2).toNatClampNeg = p1 := by rw [c1]; exact e1
  have f2 : e (4 * nI m + nI k).toNatClampNeg = p2 := by rw [c2]; exact e2
  have f3 : e (4 * nI m + nI k + 2).toNatClampNeg = p3 := by rw [c3]; exact e3
  refine ⟨i0, nm_r f0 ⟨i1, nm_r f1 ⟨i2, nm_r f2 ⟨i3, nm_r f3 (wq_yle fun a ea => wq_ymo fun g eg => br_c (fun s => h0 ?_) (fun s => wq_yle fun a' ea' => wq_ymo fun g' eg' => br_c (fun s' => h0 ?_) (fun s' => h1 ?_)))⟩⟩⟩⟩
  all_goals
    unfold wq_sp
    simp only [Int32.lt_iff_toInt_lt] at *
    omega
def wq_sg (x : Int32) : Int32 := if 0 ≤ x then (if x ≤ 0 then 0 else 1) else (-1)
theorem wq_sg3 (p : Int32) : (wq_sg p = 1 ∧ 0 < p.toInt) ∨ (wq_sg p = 0 ∧ p.toInt = 0) ∨ (wq_sg p = (-1) ∧ p.toInt < 0) := by
  unfold wq_sg
  by_cases a : 0 ≤ p
  · by_cases b : p ≤ 0
    · rw [if_pos a, if_pos b]
      rw [Int32.le_iff_toInt_le, wq_z] at a b
      exact Or.inr (Or.inl ⟨rfl, by omega⟩)
    · rw [if_pos a, if_neg b]
      rw [Int32.le_iff_toInt_le, wq_z] at b
      exact Or.inl ⟨rfl, by omega⟩
  · rw [if_neg a]
    rw [Int32.le_iff_toInt_le, wq_z] at a
    exact Or.inr (Or.inr ⟨rfl, by omega⟩)
theorem wq_sgs (p q : Int32) : 0 < wq_sg p * wq_sg q ↔ ¬ wq_one p q := by
  have o : wq_one p q ↔ ¬ (0 < p.toInt ∧ 0 < q.toInt) ∧ ¬ (p.toInt < 0 ∧ q.toInt < 0) := by
    unfold wq_one
    simp only [Int32.lt_iff_toInt_lt, wq_z]
  rw [o]
  rcases wq_sg3 p with ⟨a, b⟩ | ⟨a, b⟩ | ⟨a, b⟩ <;> rcases wq_sg3 q with ⟨c, d⟩ | ⟨c, d⟩ | ⟨c, d⟩ <;> rw [a, c]
  · exact iff_of_true (by decide) (by omega)
  · exact iff_of_false (by decide) (by omega)
  · exact iff_of_false (by decide) (by omega)
  · exact iff_of_false (by decide) (by omega)
  · exact iff_of_false (by decide) (by omega)
  · exact iff_of_false (by decide) (by omega)
  · exact iff_of_false (by decide) (by omega)
  · exact iff_of_false (by decide) (by omega)
  · exact iff_of_true (by decide) (by omega)
theorem wq_ysd {post : Int32 → Prop} {n : Nat} (hn : n < 10) {w vx vy t b px py : Int32} {e : Nat → Int32} {x y u v : Int32} (E : e (4 * n) = x ∧ e (4 * n + 1) = y ∧ e (4 * n + 2) = u ∧ e (4 * n + 3) = v) (h : post (wq_sg ((u - x) * (py - y) - (v - y) * (px - x)))) : wpY_side post (w, vx, vy, t, b, e) (nI n) px py := by
  obtain ⟨ea, eb, ec, ed⟩ := E
  unfold wpY_side
  dsimp only
  rw [wq_c0 hn, wq_c1 hn, wq_c2 hn, wq_c3 hn, ea, eb, ec, ed]
  refine ⟨wq_i0 hn, nm_e ⟨wq_i1 hn, nm_e ⟨wq_i2 hn, wq_i3 hn, nm_e ?_⟩⟩⟩
  generalize (u - x) * (py - y) - (v - y) * (px - x) = g at h
  unfold wq_sg at h
  refine br_c (fun a => br_c (fun c => ?_) (fun c => ?_)) (fun a => ?_)
  · rw [if_pos a, if_pos c] at h
    exact h
  · rw [if_pos a, if_neg c] at h
    exact h
  · rw [if_neg a] at h
    exact h
/-- wall (a, b) .. (c, d) and the new one (x, y) .. (u, v) meet -/
def wq_me (a b c d x y u v : Int32) : Prop := wq_sp x u a c ∧ wq_sp y v b d ∧ wq_one ((u - x) * (b - y) - (v - y) * (a - x)) ((u - x) * (d - y) - (v - y) * (c - x)) ∧ wq_one ((c - a) * (y - b) - (d - b) * (x - a)) ((c - a) * (v - b) - (d - b) * (u - a))
theorem wq_xme {post : Int32 → Prop} {n : Nat} (hn : n < 10) {w vx vy x y u v : Int32} {fx fy tx ty : Nat → Int32} (h1 : wq_me (fx n) (fy n) (tx n) (ty n) x y u v → post 1) (h0 : ¬ wq_me (fx n) (fy n) (tx n) (ty n) x y u v → post 0) : wpX_meetsWall post (w, vx, vy, fx, fy, tx, ty) (nI n) x y u v := by
  have hi : vp_in (nI n) 10 := vp_in_nI hn (by omega)
  have e : (nI n).toNatClampNeg = n := nI_clamp (by omega)
  unfold wpX_meetsWall wpX_cross
  dsimp only
  rw [e]
  refine ⟨hi, nm_e ⟨hi, nm_e ⟨hi, nm_e ⟨hi, nm_e ?_⟩⟩⟩⟩
  refine wq_xsp (fun s1 => br_f (by decide) (wq_xsp (fun s2 => br_f (by decide) (wq_xone (fun o1 => br_f (by decide) (wq_xone (fun o2 => br_f (by decide) (h1 ⟨s1, s2, o1, o2⟩)) (fun o2 => br_t rfl (h0 fun k => o2 k.2.2.2)))) (fun o1 => br_t rfl (h0 fun k => o1 k.2.2.1)))) (fun s2 => br_t rfl (h0 fun k => s2 k.2.1)))) (fun s1 => br_t rfl (h0 fun k => s1 k.1))
theorem wq_yme {post : Int32 → Prop} {n m : Nat} (hn : n < 10) (hm : m < 10) {w vx vy t s a b c d x y u v : Int32} {e : Nat → Int32} (E : e (4 * n) = a ∧ e (4 * n + 1) = b ∧ e (4 * n + 2) = c ∧ e (4 * n + 3) = d) (F : e (4 * m) = x ∧ e (4 * m + 1) = y ∧ e (4 * m + 2) = u ∧ e (4 * m + 3) = v) (h1 : wq_me a b c d x y u v → post 1) (h0 : ¬ wq_me a b c d x y u v → post 0) : wpY_meet post (w, vx, vy, t, s, e) (nI n) (nI m) := by
  obtain ⟨ea, eb, ec, ed⟩ := E
  obtain ⟨ex, ey, eu, ev⟩ := F
  unfold wpY_meet
  dsimp only
  rw [wq_c0 hn, wq_c1 hn, wq_c2 hn, wq_c3 hn, wq_c0 hm, wq_c1 hm, wq_c2 hm, wq_c3 hm, ea, eb, ec, ed, ex, ey, eu, ev]
  refine ⟨wq_i0 hm, wq_i1 hm, wq_ysd hn ⟨ea, eb, ec, ed⟩ ⟨wq_i2 hm, wq_i3 hm, wq_ysd hn ⟨ea, eb, ec, ed⟩ (nm_e ⟨wq_i0 hn, wq_i1 hn, wq_ysd hm ⟨ex, ey, eu, ev⟩ ⟨wq_i2 hn, wq_i3 hn, wq_ysd hm ⟨ex, ey, eu, ev⟩ (nm_e ?_)⟩⟩)⟩⟩
  refine wq_yrm 0 (by decide) hn hm ea ec ex eu (fun s1 => br_f (by decide) (wq_yrm 1 (by decide) hn hm eb ed ey ev (fun s2 => br_f (by decide) ?_) (fun s2 => br_t rfl (h0 fun k => s2 k.2.1)))) (fun s1 => br_t rfl (h0 fun k => s1 k.1))
  refine br_c (fun z => h0 fun k => (wq_sgs _ _).mp z k.2.2.2) (fun z => br_c (fun z' => h0 fun k => (wq_sgs _ _).mp z' k.2.2.1) (fun z' => h1 ⟨s1, s2, ?_, ?_⟩))
  · exact Classical.byContradiction fun o => z' ((wq_sgs _ _).mpr o)
  · exact Classical.byContradiction fun o => z ((wq_sgs _ _).mpr o)
/-- the loop over the walls that stand -/
theorem wq_any {c : Nat} (hc : c < 10) {vx vy x y u v : Int32} {fx fy tx ty e : Nat → Int32} (W : wq_W c fx fy tx ty e) (F : e (4 * c) = x ∧ e (4 * c + 1) = y ∧ e (4 * c + 2) = u ∧ e (4 * c + 3) = v) :
    ∀ d i, i + d = c → ∃ r : Int32, (r = 0 ∨ r = 1) ∧ (∀ post : Int32 → Prop, post r → wX_meetsAnyWall_3 post x y u v (nI c) vx vy fx fy tx ty (d + 1) (nI i)) ∧ (∀ (post : Int32 → SY → Prop) (t b : Int32), (r = 0 → post (nI c) (nI (c + 1), vx, vy, t, b, e)) → (r = 1 → post (-3) (nI c, vx, vy, t, b, e)) → wY_wall_116 post (nI c) vx vy t b e (d + 1) (nI i)) := by
  intro d
  induction d with
  | zero =>
    intro i hi
    have h : nI c ≤ nI i := nI_le (by omega) (by omega)
    refine ⟨0, Or.inl rfl, fun _ hp => br_t h hp, fun post t b hp _ => br_t h (nm_r (nI_1 c) ?_)⟩
    rw [nI_pred]
    exact hp rfl
  | succ d ih =>
    intro i hi
    have hic : i < c := by omega
    have h : ¬ nI c ≤ nI i := nI_ge hic (by omega)
    obtain ⟨E, M⟩ := W i hic
    by_cases z : wq_me (fx i) (fy i) (tx i) (ty i) x y u v
    · exact ⟨1, Or.inr rfl, fun post hp => br_f h (wq_xme (by omega) (fun _ => br_f (by decide) hp) (fun n => absurd z n)), fun post t b _ hp => br_f h (wq_yme (by omega) hc E F (fun _ => br_f (by decide) (hp rfl)) (fun n => absurd z n))⟩
    · obtain ⟨r, h01, hX, hY⟩ := ih (i + 1) (by omega)
      exact ⟨r, h01, fun post hp => br_f h (wq_xme (by omega) (fun n => absurd n z) (fun _ => br_t rfl (nm_r (nI_1 i) (hX post hp)))), fun post t b hp hq => br_f h (wq_yme (by omega) hc E F (fun n => absurd n z) (fun _ => br_t rfl (nm_r (nI_1 i) (hY post t b hp hq))))⟩

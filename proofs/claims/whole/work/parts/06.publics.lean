theorem pk_ix (x : Int32) {n : Nat} (hn : n < 2 ^ 31) : x < 0 ∨ nI n ≤ x ∨ ∃ j : Nat, j < n ∧ x = nI j := by
  by_cases h : x < 0
  · exact Or.inl h
  · obtain ⟨j, hj, rfl⟩ := nI_of h
    by_cases h2 : j < n
    · exact Or.inr (Or.inr ⟨j, h2, rfl⟩)
    · exact Or.inr (Or.inl (nI_le (by omega) hj))
/-! the relation -/
def wq_R (u : SX) (v : SY) : Prop := ∃ (c : Nat) (vx vy t b : Int32) (fx fy tx ty e : Nat → Int32), (c ≤ 10 ∧ wq_M 14 vx ∧ wq_M 14 vy ∧ wq_W c fx fy tx ty e) ∧ u = (nI c, vx, vy, fx, fy, tx, ty) ∧ v = (nI c, vx, vy, t, b, e)
theorem wq_mk {c : Nat} {vx vy t b : Int32} {fx fy tx ty e : Nat → Int32} (h : c ≤ 10 ∧ wq_M 14 vx ∧ wq_M 14 vy ∧ wq_W c fx fy tx ty e) : wq_R (nI c, vx, vy, fx, fy, tx, ty) (nI c, vx, vy, t, b, e) := ⟨c, vx, vy, t, b, fx, fy, tx, ty, e, h, rfl, rfl⟩
/-! points -/
def wq_P (x : Int32) : Prop := ¬ x < (-14) ∧ ¬ 14 < x ∧ (x &&& 1) = 0
def wq_O (x : Int32) : Prop := ¬ x < (-14) ∧ ¬ 14 < x ∧ ¬ (x &&& 1) = 0
theorem wq_14 {x : Int32} (h : ¬ x < (-14)) (h' : ¬ 14 < x) : wq_M 14 x := by
  have a : (-14 : Int32).toInt = -14 := by decide
  have b : (14 : Int32).toInt = 14 := by decide
  unfold wq_M
  rw [Int32.lt_iff_toInt_lt, a] at h
  rw [Int32.lt_iff_toInt_lt, b] at h'
  omega
theorem wq_xpl {post : Int32 → Prop} {x : Int32} (h1 : ¬ x < (-14) ∧ ¬ 14 < x → post 1) (h0 : ¬ (¬ x < (-14) ∧ ¬ 14 < x) → post 0) : wpX_isInPlane post x :=
  br_c (fun a => h0 fun k => k.1 a) (fun a => br_c (fun b => h0 fun k => k.2 b) (fun b => h1 ⟨a, b⟩))
theorem wq_xwp {post : Int32 → Prop} {x y : Int32} (h1 : wq_P x ∧ wq_P y → post 1) (h0 : ¬ (wq_P x ∧ wq_P y) → post 0) : wpX_isWallPoint post x y := by
  unfold wpX_isWallPoint
  refine wq_xpl (fun a => br_f (by decide) (wq_xpl (fun b => br_f (by decide) (br_c (fun c => br_f (by decide) (br_c (fun d => br_f (by decide) (h1 ⟨⟨a.1, a.2, c⟩, b.1, b.2, d⟩)) (fun d => br_t rfl (h0 fun k => d k.2.2.2)))) (fun c => br_t rfl (h0 fun k => c k.1.2.2)))) (fun b => br_t rfl (h0 fun k => b ⟨k.2.1, k.2.2.1⟩)))) (fun a => br_t rfl (h0 fun k => a ⟨k.1.1, k.1.2.1⟩))
theorem wq_yev {post : Int32 → Prop} {v : SY} {x : Int32} (h1 : wq_P x → post 1) (h0 : ¬ wq_P x → post 0) : wpY_isEven post v x :=
  br_c (fun a => h0 fun k => k.1 a) (fun a => br_c (fun b => h0 fun k => k.2.1 b) (fun b => br_c (fun c => h1 ⟨a, b, c⟩) (fun c => h0 fun k => c k.2.2)))
theorem wq_bit (x : Int32) : (x &&& 1) = 1 ↔ ¬ (x &&& 1) = 0 := by
  obtain ⟨j, hj, e⟩ := pk_andE x (m := 1) 1 (by decide)
  rw [e]
  match j, hj with
  | 0, _ => exact iff_of_false (by decide) (by decide)
  | 1, _ => exact iff_of_true (by decide) (by decide)
theorem wq_yod {post : Int32 → Prop} {v : SY} {x : Int32} (h1 : wq_O x → post 1) (h0 : ¬ wq_O x → post 0) : wpY_isOdd post v x :=
  br_c (fun a => h0 fun k => k.1 a) (fun a => br_c (fun b => h0 fun k => k.2.1 b) (fun b => br_c (fun c => h1 ⟨a, b, (wq_bit x).mp c⟩) (fun c => h0 fun k => c ((wq_bit x).mpr k.2.2))))
/-! wall -/
def wq_ok (x y u v : Int32) : Prop := (wq_P x ∧ wq_P y) ∧ (wq_P u ∧ wq_P v) ∧ ¬ (x = u ∧ y = v)
theorem wq_xwall {post : Int32 → SX → Prop} {w vx vy x y u v : Int32} {fx fy tx ty : Nat → Int32} (h1 : wq_ok x y u v → wX_wall_30 post x y u v w vx vy fx fy tx ty) (h0 : ¬ wq_ok x y u v → post (-1) (w, vx, vy, fx, fy, tx, ty)) : wpX_wall post (w, vx, vy, fx, fy, tx, ty) x y u v := by
  unfold wpX_wall
  dsimp only
  refine wq_xwp (fun a => br_f (by decide) (wq_xwp (fun b => br_f (by decide) (br_c (fun c => br_c (fun d => h0 fun k => k.2.2 ⟨c, d⟩) (fun d => h1 ⟨a, b, fun k => d k.2⟩)) (fun c => h1 ⟨a, b, fun k => c k.1⟩))) (fun b => br_t rfl (h0 fun k => b k.2.1)))) (fun a => br_t rfl (h0 fun k => a k.1))
theorem wq_ywall {post : Int32 → SY → Prop} {w vx vy t s x y u v : Int32} {e : Nat → Int32} (h1 : wq_ok x y u v → wY_wall_46 post x y u v w vx vy t s e) (h0 : ¬ wq_ok x y u v → post (-1) (w, vx, vy, t, s, e)) : wpY_wall post (w, vx, vy, t, s, e) x y u v := by
  unfold wpY_wall
  dsimp only
  refine wq_yev (fun a => br_f (by decide) (wq_yev (fun b => br_f (by decide) (wq_yev (fun c => br_f (by decide) (wq_yev (fun d => br_f (by decide) ?_) (fun d => br_t rfl (h0 fun k => d k.2.1.2)))) (fun c => br_t rfl (h0 fun k => c k.2.1.1)))) (fun b => br_t rfl (h0 fun k => b k.1.2)))) (fun a => br_t rfl (h0 fun k => a k.1.1))
  exact br_c (fun f => br_c (fun g => h0 fun k => k.2.2 ⟨f, g⟩) (fun g => h1 ⟨⟨a, b⟩, ⟨c, d⟩, fun k => g k.2⟩)) (fun f => h1 ⟨⟨a, b⟩, ⟨c, d⟩, fun k => f k.1⟩)
/-- the reference's array with a new wall behind the last -/
def wq_put (e : Nat → Int32) (c : Nat) (x y u v : Int32) : Nat → Int32 := upd (upd (upd (upd e (4 * c) x) (4 * c + 1) y) (4 * c + 2) u) (4 * c + 3) v
theorem wq_putn (e : Nat → Int32) {c j : Nat} (x y u v : Int32) (h : j < 4 * c) : wq_put e c x y u v j = e j := by
  unfold wq_put
  rw [pk_un (by omega), pk_un (by omega), pk_un (by omega), pk_un (by omega)]
theorem wq_puts (e : Nat → Int32) (c : Nat) (x y u v : Int32) : wq_put e c x y u v (4 * c) = x ∧ wq_put e c x y u v (4 * c + 1) = y ∧ wq_put e c x y u v (4 * c + 2) = u ∧ wq_put e c x y u v (4 * c + 3) = v := by
  unfold wq_put
  refine ⟨?_, ?_, ?_, pk_us⟩
  · rw [pk_un (by omega), pk_un (by omega), pk_un (by omega), pk_us]
  · rw [pk_un (by omega), pk_un (by omega), pk_us]
  · rw [pk_un (by omega), pk_us]
theorem wq_W0 {c : Nat} {fx fy tx ty e : Nat → Int32} (x y u v : Int32) (W : wq_W c fx fy tx ty e) : wq_W c fx fy tx ty (wq_put e c x y u v) := by
  intro n hn
  rw [wq_putn e x y u v (by omega), wq_putn e x y u v (by omega), wq_putn e x y u v (by omega), wq_putn e x y u v (by omega)]
  exact W n hn
theorem wq_W1 {c : Nat} {fx fy tx ty e : Nat → Int32} {x y u v : Int32} (W : wq_W c fx fy tx ty e) (M : wq_M 14 x ∧ wq_M 14 y ∧ wq_M 14 u ∧ wq_M 14 v) : wq_W (c + 1) (upd fx c x) (upd fy c y) (upd tx c u) (upd ty c v) (wq_put e c x y u v) := by
  intro n hn
  by_cases z : n = c
  · subst z
    rw [pk_us, pk_us, pk_us, pk_us]
    exact ⟨wq_puts e n x y u v, M⟩
  · rw [pk_un z, pk_un z, pk_un z, pk_un z]
    exact wq_W0 x y u v W n (by omega)
theorem wq_wall {c : Nat} {vx vy t b : Int32} {fx fy tx ty e : Nat → Int32} (R : c ≤ 10 ∧ wq_M 14 vx ∧ wq_M 14 vy ∧ wq_W c fx fy tx ty e) (x y u v : Int32) : ∃ (r : Int32) (u' : SX) (v' : SY), wq_R u' v' ∧ (∀ post : Int32 → SX → Prop, post r u' → wpX_wall post (nI c, vx, vy, fx, fy, tx, ty) x y u v) ∧ (∀ post : Int32 → SY → Prop, post r v' → wpY_wall post (nI c, vx, vy, t, b, e) x y u v) := by
  by_cases ok : wq_ok x y u v
  · by_cases h10 : c = 10
    · subst h10
      exact ⟨(-2), _, _, wq_mk (t := t) (b := b) R, fun post hp => wq_xwall (fun _ => br_f (by decide) hp) (fun n => absurd ok n), fun post hp => wq_ywall (fun _ => br_t (by decide) hp) (fun n => absurd ok n)⟩
    · obtain ⟨hc, bx, byy, W⟩ := R
      have hc : c < 10 := by omega
      have hl : nI c < 10 := nI_lt (b := 10) hc (by decide)
      have hn : ¬ nI c = 10 := fun z => h10 ((nI_eq (a := c) (b := 10) (by omega) (by decide)).mp z)
      have hi : vp_in (nI c) 10 := vp_in_nI hc (by decide)
      have ec : (nI c).toNatClampNeg = c := nI_clamp (by omega)
      have M : wq_M 14 x ∧ wq_M 14 y ∧ wq_M 14 u ∧ wq_M 14 v := ⟨wq_14 ok.1.1.1 ok.1.1.2.1, wq_14 ok.1.2.1 ok.1.2.2.1, wq_14 ok.2.1.1.1 ok.2.1.1.2.1, wq_14 ok.2.1.2.1 ok.2.1.2.2.1⟩
      obtain ⟨r, h01, hX, hY⟩ := wq_any (vx := vx) (vy := vy) hc (wq_W0 x y u v W) (wq_puts e c x y u v) c 0 (by omega)
      rw [nI_0] at hX hY
      have YY : ∀ post : Int32 → SY → Prop, (r = 0 → post (nI c) (nI (c + 1), vx, vy, t, b, wq_put e c x y u v)) → (r = 1 → post (-3) (nI c, vx, vy, t, b, wq_put e c x y u v)) → wpY_wall post (nI c, vx, vy, t, b, e) x y u v := by
        intro post hp hq
        refine wq_ywall (fun _ => br_f hn ?_) (fun n => absurd ok n)
        rw [wq_c0 hc, wq_c1 hc, wq_c2 hc, wq_c3 hc]
        exact ⟨wq_i0 hc, nm_e ⟨wq_i1 hc, nm_e ⟨wq_i2 hc, nm_e ⟨wq_i3 hc, nm_e ⟨_, hY post t b hp hq⟩⟩⟩⟩⟩
      rcases h01 with rfl | rfl
      · refine ⟨nI c, _, _, wq_mk (c := c + 1) (t := t) (b := b) ⟨hc, bx, byy, wq_W1 W M⟩, fun post hp => wq_xwall (fun _ => br_t hl ⟨_, hX _ (br_t rfl ?_)⟩) (fun n => absurd ok n), fun post hp => YY post (fun _ => hp) (fun z => absurd z (by decide))⟩
        rw [ec]
        exact ⟨hi, nm_e ⟨hi, nm_e ⟨hi, nm_e ⟨hi, nm_e (nm_r (nI_1 c) hp)⟩⟩⟩⟩
      · exact ⟨(-3), _, _, wq_mk (t := t) (b := b) ⟨by omega, bx, byy, wq_W0 x y u v W⟩, fun post hp => wq_xwall (fun _ => br_t hl ⟨_, hX _ (br_f (by decide) hp)⟩) (fun n => absurd ok n), fun post hp => YY post (fun z => absurd z (by decide)) (fun _ => hp)⟩
  · exact ⟨(-1), _, _, wq_mk (t := t) (b := b) R, fun post hp => wq_xwall (fun z => absurd z ok) (fun _ => hp), fun post hp => wq_ywall (fun z => absurd z ok) (fun _ => hp)⟩
/-! arguments of a ray -/
theorem wq_look (x : Int32) : x < 0 ∨ (¬ x < 0 ∧ 4 ≤ x ∧ 3 < x ∧ ¬ x ≤ 3) ∨ ∃ l : Nat, l < 4 ∧ x = nI l := by
  rcases pk_ix x (n := 4) (by decide) with h | h | h
  · exact Or.inl h
  · have a : (4 : Int32) ≤ x := h
    have b : (3 : Int32) < x := Int32.lt_of_lt_of_le (by decide) a
    exact Or.inr (Or.inl ⟨fun z => absurd (Int32.lt_of_lt_of_le z (Int32.le_trans (by decide) a)) (Int32.lt_irrefl), a, b, fun z => absurd (Int32.lt_of_lt_of_le b z) (Int32.lt_irrefl)⟩)
  · exact Or.inr (Or.inr h)
theorem wq_col (x : Int32) : x < 0 ∨ (¬ x < 0 ∧ 16 ≤ x ∧ 15 < x) ∨ ∃ k : Nat, k < 16 ∧ x = nI k := by
  rcases pk_ix x (n := 16) (by decide) with h | h | h
  · exact Or.inl h
  · have a : (16 : Int32) ≤ x := h
    have b : (15 : Int32) < x := Int32.lt_of_lt_of_le (by decide) a
    exact Or.inr (Or.inl ⟨fun z => absurd (Int32.lt_of_lt_of_le z (Int32.le_trans (by decide) a)) (Int32.lt_irrefl), a, b⟩)
  · exact Or.inr (Or.inr h)
theorem wq_xlk {post : Int32 → Prop} {l : Nat} (hl : l < 4) (h : post 1) : wpX_isLook post (nI l) := br_f (nI_pos (by omega)) (br_f (nI_ge (b := 4) hl (by decide)) h)
theorem wq_xcl {post : Int32 → Prop} {k : Nat} (hk : k < 16) (h : post 1) : wpX_isColumn post (nI k) := br_f (nI_pos (by omega)) (br_f (nI_ge (b := 16) hk (by decide)) h)
/-- look and column out of range: -1 on both sides; else one of the 64 rays -/
theorem wq_ray (p q : Int32) : (∃ l k : Nat, (l < 4 ∧ k < 16) ∧ p = nI l ∧ q = nI k) ∨ ((∀ A B : Prop, A → wpX_isLook (fun r => (r = 0 → A) ∧ (¬ r = 0 → wpX_isColumn (fun r => (r = 0 → A) ∧ (¬ r = 0 → B)) q)) p) ∧ (∀ (v : SY) (post : Int32 → Prop), post 0 → wpY_isRay post v p q)) := by
  rcases wq_look p with h | ⟨h0, h4, h3, _⟩ | ⟨l, hl, rfl⟩
  · exact Or.inr ⟨fun A B a => br_t h (br_t rfl a), fun v post hp => br_t h hp⟩
  · exact Or.inr ⟨fun A B a => br_f h0 (br_t h4 (br_t rfl a)), fun v post hp => br_f h0 (br_t h3 hp)⟩
  · have g0 : ¬ nI l < 0 := nI_pos (by omega)
    have g3 : ¬ 3 < nI l := nI_nlt (b := l) (a := 3) (by omega) (by decide)
    rcases wq_col q with h | ⟨h0, h4, h3⟩ | ⟨k, hk, rfl⟩
    · exact Or.inr ⟨fun A B a => wq_xlk hl (br_f (by decide) (br_t h (br_t rfl a))), fun v post hp => br_f g0 (br_f g3 (br_t h hp))⟩
    · exact Or.inr ⟨fun A B a => wq_xlk hl (br_f (by decide) (br_f h0 (br_t h4 (br_t rfl a)))), fun v post hp => br_f g0 (br_f g3 (br_f h0 (br_t h3 hp)))⟩
    · exact Or.inl ⟨l, k, ⟨hl, hk⟩, rfl, rfl⟩

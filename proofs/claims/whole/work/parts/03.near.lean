/-! the class: one wall and one ray -/
theorem wq_xone {post : Int32 → Prop} {p q : Int32} (h1 : wq_one p q → post 1) (h0 : ¬ wq_one p q → post 0) : wpX_notOnOneSide post p q := by
  have z8 : (p ≤ 0 ∨ ¬ 0 < q) → wX_notOnOneSide_8 post p q := by
    intro s
    refine br_c (fun a => h1 ?_) (fun a => br_c (fun b => h0 ?_) (fun b => h1 ?_))
    all_goals
      unfold wq_one
      simp only [Int32.lt_iff_toInt_lt, Int32.le_iff_toInt_le, wq_z] at *
      omega
  refine br_c (fun a => z8 (Or.inl a)) (fun a => br_c (fun b => h0 ?_) (fun b => z8 (Or.inr b)))
  unfold wq_one
  simp only [Int32.lt_iff_toInt_lt, Int32.le_iff_toInt_le, wq_z] at *
  omega
theorem wq_xtop {post : Int32 → Prop} {n : Nat} (hn : n < 10) {w vx vy : Int32} {fx fy tx ty : Nat → Int32} (h : post (wq_t (fx n) (fy n) (tx n) (ty n) vx vy)) : wpX_hitTop post (w, vx, vy, fx, fy, tx, ty) (nI n) := by
  have hi : vp_in (nI n) 10 := vp_in_nI hn (by omega)
  have e : (nI n).toNatClampNeg = n := nI_clamp (by omega)
  unfold wpX_hitTop wpX_cross
  dsimp only
  rw [e]
  exact ⟨hi, hi, hi, hi, hi, hi, h⟩
theorem wq_xbot {post : Int32 → Prop} {n : Nat} (hn : n < 10) {w vx vy dx dy : Int32} {fx fy tx ty : Nat → Int32} (h : post (wq_b (fx n) (fy n) (tx n) (ty n) dx dy)) : wpX_hitBottom post (w, vx, vy, fx, fy, tx, ty) (nI n) dx dy := by
  have hi : vp_in (nI n) 10 := vp_in_nI hn (by omega)
  have e : (nI n).toNatClampNeg = n := nI_clamp (by omega)
  unfold wpX_hitBottom wpX_cross
  dsimp only
  rw [e]
  exact ⟨hi, hi, hi, hi, h⟩
theorem wq_xline {post : Int32 → Prop} {n : Nat} (hn : n < 10) {w vx vy dx dy : Int32} {fx fy tx ty : Nat → Int32} (h1 : wq_one (dx * (fy n - vy) - dy * (fx n - vx)) (dx * (ty n - vy) - dy * (tx n - vx)) → post 1) (h0 : ¬ wq_one (dx * (fy n - vy) - dy * (fx n - vx)) (dx * (ty n - vy) - dy * (tx n - vx)) → post 0) : wpX_meetsLineOfRay post (w, vx, vy, fx, fy, tx, ty) (nI n) dx dy := by
  have hi : vp_in (nI n) 10 := vp_in_nI hn (by omega)
  have e : (nI n).toNatClampNeg = n := nI_clamp (by omega)
  unfold wpX_meetsLineOfRay wpX_cross
  dsimp only
  rw [e]
  exact ⟨hi, hi, hi, hi, wq_xone (fun z => ⟨rfl, h1 z⟩) (fun z => ⟨rfl, h0 z⟩)⟩
theorem wq_x96 {post : Int32 → Prop} {J : Int32 → Int32 → Int32 → Int32 → Prop} {dx dy x5 x6 x7 T B z w vx vy : Int32} {i : Nat} {fx fy tx ty : Nat → Int32} (H : Prop) (hz : (z = 0 ∧ ¬ H) ∨ (z = 1 ∧ H)) (h1 : wq_K H x5 x6 x7 T B → J (nI i) T B (nI (i + 1))) (h0 : ¬ wq_K H x5 x6 x7 T B → J x5 x6 x7 (nI (i + 1))) : wX_nearestWall_96 post J dx dy x5 x6 x7 (nI i) T B z w vx vy fx fy tx ty := by
  rcases hz with ⟨rfl, hH⟩ | ⟨rfl, hH⟩
  · exact br_t rfl (nm_r (nI_1 i) (h0 fun k => hH k.1))
  · refine br_f (by decide) (br_c (fun a => ?_) (fun a => br_c (fun b => nm_r (nI_1 i) (h0 fun k => k.2.elim a (fun q => q b))) (fun b => ?_)))
    · exact nm_r (nI_1 i) (h1 ⟨hH, Or.inl a⟩)
    · exact nm_r (nI_1 i) (h1 ⟨hH, Or.inr b⟩)
theorem wq_x69 {post : Int32 → Prop} {J : Int32 → Int32 → Int32 → Int32 → Prop} {dx dy x5 x6 x7 T B w vx vy : Int32} {i : Nat} (hi : i < 10) {fx fy tx ty : Nat → Int32} (H : Prop) (hH : H ↔ (0 < T ∧ 0 < B ∧ wq_one (dx * (fy i - vy) - dy * (fx i - vx)) (dx * (ty i - vy) - dy * (tx i - vx)))) (h1 : wq_K H x5 x6 x7 T B → J (nI i) T B (nI (i + 1))) (h0 : ¬ wq_K H x5 x6 x7 T B → J x5 x6 x7 (nI (i + 1))) : wX_nearestWall_69 post J dx dy x5 x6 x7 (nI i) T B w vx vy fx fy tx ty := by
  have no : ¬ H → wX_nearestWall_95 post J dx dy x5 x6 x7 (nI i) T B w vx vy fx fy tx ty := fun hn => wq_x96 H (Or.inl ⟨rfl, hn⟩) h1 h0
  refine br_c (fun a => no fun k => Int32.not_lt.mpr a (hH.mp k).1) (fun a => br_c (fun b => no fun k => Int32.not_lt.mpr b (hH.mp k).2.1) (fun b => wq_xline hi (fun o => ?_) (fun o => ?_)))
  · exact br_f (by decide) (wq_x96 H (Or.inr ⟨rfl, hH.mpr ⟨Int32.not_le.mp a, Int32.not_le.mp b, o⟩⟩) h1 h0)
  · exact br_t rfl (no fun k => o (hH.mp k).2.2)
theorem wq_x26 {post : Int32 → Prop} {dx dy x5 x6 x7 vx vy : Int32} {n i c : Nat} (hi : i < c) (hc : c ≤ 10) {fx fy tx ty : Nat → Int32} (D : wq_D (fx i) (fy i) (tx i) (ty i) vx vy dx dy)
    (h1 : wq_K (wq_H (fx i) (fy i) (tx i) (ty i) vx vy dx dy) x5 x6 x7 (wq_T (fx i) (fy i) (tx i) (ty i) vx vy dx dy) (wq_B (fx i) (fy i) (tx i) (ty i) dx dy) → wX_nearestWall_26 post dx dy (nI c) vx vy fx fy tx ty n (nI i) (wq_T (fx i) (fy i) (tx i) (ty i) vx vy dx dy) (wq_B (fx i) (fy i) (tx i) (ty i) dx dy) (nI (i + 1)))
    (h0 : ¬ wq_K (wq_H (fx i) (fy i) (tx i) (ty i) vx vy dx dy) x5 x6 x7 (wq_T (fx i) (fy i) (tx i) (ty i) vx vy dx dy) (wq_B (fx i) (fy i) (tx i) (ty i) dx dy) → wX_nearestWall_26 post dx dy (nI c) vx vy fx fy tx ty n x5 x6 x7 (nI (i + 1))) :
    wX_nearestWall_26 post dx dy (nI c) vx vy fx fy tx ty (n + 1) x5 x6 x7 (nI i) := by
  refine br_f (nI_ge hi (by omega)) (wq_xtop (by omega) (wq_xbot (by omega) (br_c (fun p => ?_) (fun p => nm_e (nm_e ?_)))))
  · have eT : wq_T (fx i) (fy i) (tx i) (ty i) vx vy dx dy = wq_t (fx i) (fy i) (tx i) (ty i) vx vy := if_pos p
    have eB : wq_B (fx i) (fy i) (tx i) (ty i) dx dy = wq_b (fx i) (fy i) (tx i) (ty i) dx dy := if_pos p
    rw [eT, eB] at h1 h0
    exact wq_x69 (by omega) _ (wq_ge D p) h1 h0
  · have eT : wq_T (fx i) (fy i) (tx i) (ty i) vx vy dx dy = - wq_t (fx i) (fy i) (tx i) (ty i) vx vy := if_neg p
    have eB : wq_B (fx i) (fy i) (tx i) (ty i) dx dy = - wq_b (fx i) (fy i) (tx i) (ty i) dx dy := if_neg p
    rw [eT, eB] at h1 h0
    exact wq_x69 (by omega) _ (wq_nge D p) h1 h0
/-! the reference: one wall and one ray -/
theorem wq_y165 {post : Int32 → SY → Prop} {w vx vy T B A : Int32} {e : Nat → Int32} (h1 : (0 < B ∧ 0 < T ∧ 0 ≤ A ∧ A ≤ B) → post 1 (w, vx, vy, T, B, e)) (h0 : ¬ (0 < B ∧ 0 < T ∧ 0 ≤ A ∧ A ≤ B) → post 0 (w, vx, vy, T, B, e)) : wY_hits_165 post A w vx vy T B e := by
  refine br_c (fun a => h0 fun k => Int32.not_lt.mpr a k.1) (fun a => br_c (fun b => h0 fun k => Int32.not_lt.mpr b k.2.1) (fun b => br_c (fun g => h0 fun k => Int32.not_lt.mpr k.2.2.1 g) (fun g => br_c (fun f => h0 fun k => Int32.not_lt.mpr k.2.2.2 f) (fun f => h1 ?_))))
  exact ⟨Int32.not_le.mp a, Int32.not_le.mp b, Int32.not_lt.mp g, Int32.not_lt.mp f⟩
theorem wq_yhits {post : Int32 → SY → Prop} {n l k : Nat} (hn : n < 10) (hl : l < 4) {w vx vy t b : Int32} {e : Nat → Int32} {fx fy tx ty : Int32} (E : e (4 * n) = fx ∧ e (4 * n + 1) = fy ∧ e (4 * n + 2) = tx ∧ e (4 * n + 3) = ty)
    (h1 : wq_H fx fy tx ty vx vy (wq_rx l k) (wq_ry l k) → post 1 (w, vx, vy, wq_T fx fy tx ty vx vy (wq_rx l k) (wq_ry l k), wq_B fx fy tx ty (wq_rx l k) (wq_ry l k), e))
    (h0 : ¬ wq_H fx fy tx ty vx vy (wq_rx l k) (wq_ry l k) → post 0 (w, vx, vy, wq_T fx fy tx ty vx vy (wq_rx l k) (wq_ry l k), wq_B fx fy tx ty (wq_rx l k) (wq_ry l k), e)) :
    wpY_hits post (w, vx, vy, t, b, e) (nI n) (nI l) (nI k) := by
  obtain ⟨ea, eb, ec, ed⟩ := E
  unfold wpY_hits
  dsimp only
  refine wq_yrx hl (wq_yry hl ?_)
  rw [wq_c0 hn, wq_c1 hn, wq_c2 hn, wq_c3 hn, ea, eb, ec, ed]
  refine ⟨wq_i2 hn, wq_i0 hn, nm_e ⟨wq_i3 hn, wq_i1 hn, nm_e ⟨wq_i0 hn, nm_e ⟨wq_i1 hn, nm_e (nm_e (nm_e (nm_e (br_c (fun p => ?_) (fun p => nm_e (nm_e (nm_e ?_)))))))⟩⟩⟩⟩
  · have p' : 0 ≤ wq_b fx fy tx ty (wq_rx l k) (wq_ry l k) := p
    unfold wq_H wq_T wq_B wq_A at h1 h0
    rw [if_pos p', if_pos p', if_pos p'] at h1 h0
    exact wq_y165 h1 h0
  · have p' : ¬ 0 ≤ wq_b fx fy tx ty (wq_rx l k) (wq_ry l k) := p
    unfold wq_H wq_T wq_B wq_A at h1 h0
    rw [if_neg p', if_neg p', if_neg p'] at h1 h0
    exact wq_y165 h1 h0
theorem wq_y23 {post : Int32 → SY → Prop} {x3 x4 x5 vx vy t b : Int32} {n i c l k : Nat} (hi : i < c) (hc : c ≤ 10) (hl : l < 4) {e : Nat → Int32} {fx fy tx ty : Int32} (E : e (4 * i) = fx ∧ e (4 * i + 1) = fy ∧ e (4 * i + 2) = tx ∧ e (4 * i + 3) = ty)
    (h1 : wq_K (wq_H fx fy tx ty vx vy (wq_rx l k) (wq_ry l k)) x3 x4 x5 (wq_T fx fy tx ty vx vy (wq_rx l k) (wq_ry l k)) (wq_B fx fy tx ty (wq_rx l k) (wq_ry l k)) → ∀ t' b' : Int32, wY_seen_23 post (nI l) (nI k) n (nI i) (wq_T fx fy tx ty vx vy (wq_rx l k) (wq_ry l k)) (wq_B fx fy tx ty (wq_rx l k) (wq_ry l k)) (nI (i + 1)) (nI c) vx vy t' b' e)
    (h0 : ¬ wq_K (wq_H fx fy tx ty vx vy (wq_rx l k) (wq_ry l k)) x3 x4 x5 (wq_T fx fy tx ty vx vy (wq_rx l k) (wq_ry l k)) (wq_B fx fy tx ty (wq_rx l k) (wq_ry l k)) → ∀ t' b' : Int32, wY_seen_23 post (nI l) (nI k) n x3 x4 x5 (nI (i + 1)) (nI c) vx vy t' b' e) :
    wY_seen_23 post (nI l) (nI k) (n + 1) x3 x4 x5 (nI i) (nI c) vx vy t b e := by
  refine br_f (nI_ge hi (by omega)) (wq_yhits (by omega) hl E (fun H => ?_) (fun H => ?_))
  · refine br_f (by decide) (br_c (fun a => nm_r (nI_1 i) (h1 ⟨H, Or.inl a⟩ _ _)) (fun a => br_c (fun q => nm_r (nI_1 i) (h0 (fun k => k.2.elim a (fun q' => q' q)) _ _)) (fun q => nm_r (nI_1 i) (h1 ⟨H, Or.inr q⟩ _ _))))
  · exact br_t rfl (nm_r (nI_1 i) (h0 (fun k => H k.1) _ _))
/-! the nearest wall of a ray: both sides turn by turn -/
def wq_G (c l k : Nat) (vx vy : Int32) (fx fy tx ty : Nat → Int32) (r : Int32) : Prop := r = (-4) ∨ ∃ n, n < c ∧ r = nI n ∧ wq_H (fx n) (fy n) (tx n) (ty n) vx vy (wq_rx l k) (wq_ry l k)
theorem wq_lock {c l k : Nat} (hc : c ≤ 10) (hl : l < 4) (hk : k < 16) {vx vy : Int32} {fx fy tx ty e : Nat → Int32} (bx : wq_M 14 vx) (byy : wq_M 14 vy) (W : wq_W c fx fy tx ty e) :
    ∀ d i, i + d = c → ∀ x5 x6 x7 : Int32, wq_G c l k vx vy fx fy tx ty x5 → ∃ r : Int32, wq_G c l k vx vy fx fy tx ty r ∧ (∀ post : Int32 → Prop, post r → wX_nearestWall_26 post (wq_rx l k) (wq_ry l k) (nI c) vx vy fx fy tx ty (d + 1) x5 x6 x7 (nI i)) ∧ (∀ (post : Int32 → SY → Prop) (t b : Int32), (∀ t' b' : Int32, post r (nI c, vx, vy, t', b', e)) → wY_seen_23 post (nI l) (nI k) (d + 1) x5 x6 x7 (nI i) (nI c) vx vy t b e) := by
  intro d
  induction d with
  | zero =>
    intro i hi x5 x6 x7 g
    have h : nI c ≤ nI i := nI_le (by omega) (by omega)
    exact ⟨x5, g, fun _ hp => br_t h hp, fun _ _ _ hp => br_t h (hp _ _)⟩
  | succ d ih =>
    intro i hi x5 x6 x7 g
    have hic : i < c := by omega
    obtain ⟨E, M⟩ := W i hic
    have D : wq_D (fx i) (fy i) (tx i) (ty i) vx vy (wq_rx l k) (wq_ry l k) := ⟨M, ⟨bx, byy⟩, wq_Bx hl hk, wq_By hl hk⟩
    by_cases K : wq_K (wq_H (fx i) (fy i) (tx i) (ty i) vx vy (wq_rx l k) (wq_ry l k)) x5 x6 x7 (wq_T (fx i) (fy i) (tx i) (ty i) vx vy (wq_rx l k) (wq_ry l k)) (wq_B (fx i) (fy i) (tx i) (ty i) (wq_rx l k) (wq_ry l k))
    · obtain ⟨r, gr, hX, hY⟩ := ih (i + 1) (by omega) (nI i) (wq_T (fx i) (fy i) (tx i) (ty i) vx vy (wq_rx l k) (wq_ry l k)) (wq_B (fx i) (fy i) (tx i) (ty i) (wq_rx l k) (wq_ry l k)) (Or.inr ⟨i, hic, rfl, K.1⟩)
      exact ⟨r, gr, fun post hp => wq_x26 hic hc D (fun _ => hX post hp) (fun z => absurd K z), fun post t b hp => wq_y23 hic hc hl E (fun _ t' b' => hY post t' b' hp) (fun z => absurd K z)⟩
    · obtain ⟨r, gr, hX, hY⟩ := ih (i + 1) (by omega) x5 x6 x7 g
      exact ⟨r, gr, fun post hp => wq_x26 hic hc D (fun z => absurd z K) (fun _ => hX post hp), fun post t b hp => wq_y23 hic hc hl E (fun z => absurd z K) (fun _ t' b' => hY post t' b' hp)⟩
theorem wq_yray {post : Int32 → Prop} {l k : Nat} (hl : l < 4) (hk : k < 16) {v : SY} (h : post 1) : wpY_isRay post v (nI l) (nI k) :=
  br_f (nI_pos (by omega)) (br_f (nI_nlt (b := l) (a := 3) (by omega) (by decide)) (br_f (nI_pos (by omega)) (br_f (nI_nlt (b := k) (a := 15) (by omega) (by decide)) h)))
/-- one answer for a ray, on both sides -/
def wq_S (c : Nat) (vx vy : Int32) (fx fy tx ty e : Nat → Int32) : Prop := ∀ l k, l < 4 → k < 16 → ∃ r : Int32, wq_G c l k vx vy fx fy tx ty r ∧ (∀ post : Int32 → Prop, post r → wpX_nearestWall post (nI c, vx, vy, fx, fy, tx, ty) (nI l) (nI k)) ∧ (∀ (post : Int32 → SY → Prop) (t b : Int32), (∀ t' b' : Int32, post r (nI c, vx, vy, t', b', e)) → wpY_seen post (nI c, vx, vy, t, b, e) (nI l) (nI k))
theorem wq_see {c : Nat} (hc : c ≤ 10) {vx vy : Int32} {fx fy tx ty e : Nat → Int32} (bx : wq_M 14 vx) (byy : wq_M 14 vy) (W : wq_W c fx fy tx ty e) : wq_S c vx vy fx fy tx ty e := by
  intro l k hl hk
  obtain ⟨r, g, hX, hY⟩ := wq_lock hc hl hk bx byy W c 0 (by omega) (-4) 0 1 (Or.inl rfl)
  rw [nI_0] at hX hY
  refine ⟨r, g, fun post hp => ?_, fun post t b hp => ?_⟩
  · unfold wpX_nearestWall
    dsimp only
    exact wq_xrx hl (wq_xry hl ⟨_, hX post hp⟩)
  · unfold wpY_seen
    dsimp only
    exact wq_yray hl hk (br_f (by decide) ⟨_, hY post t b hp⟩)

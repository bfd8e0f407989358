/-! the loops over rays: both sides turn by turn, over one answer for each ray -/
theorem wq_in12 {c : Nat} {vx vy : Int32} {fx fy tx ty e : Nat → Int32} (S : wq_S c vx vy fx fy tx ty e) (x1 : Int32) {l : Nat} (hl : l < 4) :
    ∀ d j, j + d = 16 → ∀ x2 : Int32, ∃ r : Int32, (∀ (post : Int32 → Prop) (J : Int32 → Int32 → Prop), J r (nI (l + 1)) → wX_raysThatShow_12 post J x1 (nI l) (nI c) vx vy fx fy tx ty (d + 1) x2 (nI j)) ∧ (∀ (post : Int32 → SY → Prop) (J : Int32 → Int32 → Int32 → Int32 → Int32 → Int32 → Int32 → (Nat → Int32) → Prop) (t b : Int32), (∀ t' b' : Int32, J r (nI (l + 1)) (nI c) vx vy t' b' e) → wY_raysThatSee_12 post J x1 (nI l) (d + 1) x2 (nI j) (nI c) vx vy t b e) := by
  intro d
  induction d with
  | zero =>
    intro j hj x2
    have h : (16 : Int32) ≤ nI j := nI_le (a := 16) (by omega) (by omega)
    exact ⟨x2, fun _ _ hp => br_t h (nm_r (nI_1 l) hp), fun _ _ _ _ hp => br_t h (nm_r (nI_1 l) (hp _ _))⟩
  | succ d ih =>
    intro j hj x2
    have h : ¬ (16 : Int32) ≤ nI j := nI_ge (b := 16) (by omega) (by decide)
    obtain ⟨s, _, sX, sY⟩ := S l j hl (by omega)
    by_cases z : s = x1
    · obtain ⟨r, hX, hY⟩ := ih (j + 1) (by omega) (x2 + 1)
      exact ⟨r, fun post J hp => br_f h (sX _ (br_t z (nm_e (nm_r (nI_1 j) (hX post J hp))))), fun post J t b hp => br_f h (sY _ t b fun t' b' => br_t z (nm_e (nm_r (nI_1 j) (hY post J t' b' hp))))⟩
    · obtain ⟨r, hX, hY⟩ := ih (j + 1) (by omega) x2
      exact ⟨r, fun post J hp => br_f h (sX _ (br_f z (nm_r (nI_1 j) (hX post J hp)))), fun post J t b hp => br_f h (sY _ t b fun t' b' => br_f z (nm_r (nI_1 j) (hY post J t' b' hp)))⟩
theorem wq_in4 {c : Nat} {vx vy : Int32} {fx fy tx ty e : Nat → Int32} (S : wq_S c vx vy fx fy tx ty e) (x1 : Int32) :
    ∀ d l, l + d = 4 → ∀ x2 : Int32, ∃ r : Int32, (∀ post : Int32 → Prop, post r → wX_raysThatShow_4 post x1 (nI c) vx vy fx fy tx ty (d + 1) x2 (nI l)) ∧ (∀ (post : Int32 → SY → Prop) (t b : Int32), (∀ t' b' : Int32, post r (nI c, vx, vy, t', b', e)) → wY_raysThatSee_4 post x1 (d + 1) x2 (nI l) (nI c) vx vy t b e) := by
  intro d
  induction d with
  | zero =>
    intro l hl x2
    have h : (4 : Int32) ≤ nI l := nI_le (a := 4) (by omega) (by omega)
    exact ⟨x2, fun _ hp => br_t h hp, fun _ _ _ hp => br_t h (hp _ _)⟩
  | succ d ih =>
    intro l hl x2
    have h : ¬ (4 : Int32) ≤ nI l := nI_ge (b := 4) (by omega) (by decide)
    obtain ⟨r1, aX, aY⟩ := wq_in12 S x1 (l := l) (by omega) 16 0 (by omega) x2
    rw [nI_0] at aX aY
    obtain ⟨r, hX, hY⟩ := ih (l + 1) (by omega) r1
    exact ⟨r, fun post hp => br_f h ⟨_, aX post _ (hX post hp)⟩, fun post t b hp => br_f h ⟨_, aY post _ t b fun t' b' => hY post t' b' hp⟩⟩
theorem wq_rays {c : Nat} {vx vy : Int32} {fx fy tx ty e : Nat → Int32} (S : wq_S c vx vy fx fy tx ty e) (x1 : Int32) : ∃ r : Int32, (∀ post : Int32 → Prop, post r → wpX_raysThatShow post (nI c, vx, vy, fx, fy, tx, ty) x1) ∧ (∀ (post : Int32 → SY → Prop) (t b : Int32), (∀ t' b' : Int32, post r (nI c, vx, vy, t', b', e)) → wpY_raysThatSee post (nI c, vx, vy, t, b, e) x1) := by
  obtain ⟨r, hX, hY⟩ := wq_in4 S x1 4 0 (by omega) 0
  rw [nI_0] at hX hY
  exact ⟨r, fun post hp => ⟨_, hX post hp⟩, fun post t b hp => ⟨_, hY post t b hp⟩⟩
theorem wq_is2 {c : Nat} {vx vy : Int32} {fx fy tx ty e : Nat → Int32} (S : wq_S c vx vy fx fy tx ty e) (x1 : Int32) {l : Nat} (hl : l < 4) :
    ∀ d j, j + d = 16 → ∃ r : Int32, (∀ post : Int32 → Prop, post r → wX_isSeenInLook_2 post x1 (nI l) (nI c) vx vy fx fy tx ty (d + 1) (nI j)) ∧ (∀ (post : Int32 → SY → Prop) (t b : Int32), (∀ t' b' : Int32, post r (nI c, vx, vy, t', b', e)) → wY_isSeen_2 post (nI l) x1 (d + 1) (nI j) (nI c) vx vy t b e) := by
  intro d
  induction d with
  | zero =>
    intro j hj
    have h : (16 : Int32) ≤ nI j := nI_le (a := 16) (by omega) (by omega)
    exact ⟨0, fun _ hp => br_t h hp, fun _ _ _ hp => br_t h (hp _ _)⟩
  | succ d ih =>
    intro j hj
    have h : ¬ (16 : Int32) ≤ nI j := nI_ge (b := 16) (by omega) (by decide)
    obtain ⟨s, _, sX, sY⟩ := S l j hl (by omega)
    by_cases z : s = x1
    · exact ⟨1, fun post hp => br_f h (sX _ (br_t z hp)), fun post t b hp => br_f h (sY _ t b fun t' b' => br_t z (hp _ _))⟩
    · obtain ⟨r, hX, hY⟩ := ih (j + 1) (by omega)
      exact ⟨r, fun post hp => br_f h (sX _ (br_f z (nm_r (nI_1 j) (hX post hp)))), fun post t b hp => br_f h (sY _ t b fun t' b' => br_f z (nm_r (nI_1 j) (hY post t' b' hp)))⟩
theorem wq_is {c : Nat} {vx vy : Int32} {fx fy tx ty e : Nat → Int32} (S : wq_S c vx vy fx fy tx ty e) (x1 : Int32) {l : Nat} (hl : l < 4) : ∃ r : Int32, (∀ post : Int32 → Prop, post r → wpX_isSeenInLook post (nI c, vx, vy, fx, fy, tx, ty) x1 (nI l)) ∧ (∀ (post : Int32 → SY → Prop) (t b : Int32), (∀ t' b' : Int32, post r (nI c, vx, vy, t', b', e)) → wpY_isSeen post (nI c, vx, vy, t, b, e) (nI l) x1) := by
  obtain ⟨r, hX, hY⟩ := wq_is2 S x1 hl 16 0 (by omega)
  rw [nI_0] at hX hY
  exact ⟨r, fun post hp => ⟨_, hX post hp⟩, fun post t b hp => ⟨_, hY post t b hp⟩⟩
theorem wq_vis {c : Nat} (hc : c ≤ 10) {vx vy : Int32} {fx fy tx ty e : Nat → Int32} (S : wq_S c vx vy fx fy tx ty e) {l : Nat} (hl : l < 4) :
    ∀ d i, i + d = c → ∀ x2 : Int32, ∃ r : Int32, (∀ post : Int32 → Prop, post r → wX_visible_13 post (nI l) (nI c) vx vy fx fy tx ty (d + 1) x2 (nI i)) ∧ (∀ (post : Int32 → SY → Prop) (t b : Int32), (∀ t' b' : Int32, post r (nI c, vx, vy, t', b', e)) → wY_visible_15 post (nI l) (d + 1) x2 (nI i) (nI c) vx vy t b e) := by
  intro d
  induction d with
  | zero =>
    intro i hi x2
    have h : nI c ≤ nI i := nI_le (by omega) (by omega)
    exact ⟨x2, fun _ hp => br_t h hp, fun _ _ _ hp => br_t h (hp _ _)⟩
  | succ d ih =>
    intro i hi x2
    have h : ¬ nI c ≤ nI i := nI_ge (by omega) (by omega)
    obtain ⟨s, sX, sY⟩ := wq_is S (nI i) hl
    by_cases z : s = 0
    · obtain ⟨r, hX, hY⟩ := ih (i + 1) (by omega) x2
      exact ⟨r, fun post hp => br_f h (sX _ (br_t z (nm_r (nI_1 i) (hX post hp)))), fun post t b hp => br_f h (sY _ t b fun t' b' => br_t z (nm_r (nI_1 i) (hY post t' b' hp)))⟩
    · obtain ⟨r, hX, hY⟩ := ih (i + 1) (by omega) (x2 + 1)
      exact ⟨r, fun post hp => br_f h (sX _ (br_f z (nm_e (nm_r (nI_1 i) (hX post hp))))), fun post t b hp => br_f h (sY _ t b fun t' b' => br_f z (nm_e (nm_r (nI_1 i) (hY post t' b' hp))))⟩
theorem wq_edge {c : Nat} {vx vy : Int32} {fx fy tx ty e : Nat → Int32} (S : wq_S c vx vy fx fy tx ty e) {l : Nat} (hl : l < 4) :
    ∀ d j, j + d = 15 → ∃ r : Int32, (∀ post : Int32 → Prop, post r → wX_edge_11 post (nI l) (nI c) vx vy fx fy tx ty (d + 1) (nI j)) ∧ (∀ (post : Int32 → SY → Prop) (t b : Int32), (∀ t' b' : Int32, post r (nI c, vx, vy, t', b', e)) → wY_edge_13 post (nI l) (d + 1) (nI j) (nI c) vx vy t b e) := by
  intro d
  induction d with
  | zero =>
    intro j hj
    have h : (15 : Int32) ≤ nI j := nI_le (a := 15) (by omega) (by omega)
    exact ⟨(-4), fun _ hp => br_t h hp, fun _ _ _ hp => br_t h (hp _ _)⟩
  | succ d ih =>
    intro j hj
    have h : ¬ (15 : Int32) ≤ nI j := nI_ge (b := 15) (by omega) (by decide)
    obtain ⟨s, _, sX, sY⟩ := S l j hl (by omega)
    obtain ⟨q, _, qX, qY⟩ := S l (j + 1) hl (by omega)
    rw [← nI_1 j] at qX qY
    by_cases z : s = q
    · obtain ⟨r, hX, hY⟩ := ih (j + 1) (by omega)
      exact ⟨r, fun post hp => br_f h (sX _ (qX _ (br_t z (nm_r (nI_1 j) (hX post hp))))), fun post t b hp => br_f h (sY _ t b fun t' b' => qY _ t' b' fun t'' b'' => br_t z (nm_r (nI_1 j) (hY post t'' b'' hp)))⟩
    · exact ⟨nI j, fun post hp => br_f h (sX _ (qX _ (br_f z hp))), fun post t b hp => br_f h (sY _ t b fun t' b' => qY _ t' b' fun t'' b'' => br_f z (hp _ _))⟩

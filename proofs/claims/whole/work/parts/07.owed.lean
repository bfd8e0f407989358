/-- counts, viewpoint and walls alike, all coordinates from -14 to 14; the reference's scratch fields and what lies behind its last wall are free -/
def i_Rel (k : Nat) (u : SX) (v : SY) : Prop := wq_R u v
theorem i_up {k : Nat} {u : SX} {v : SY} (h : i_Rel k u v) : i_Rel (k + 5) u v := h
theorem i_vc0 : wpX_init (fun u => wpY_init (fun v => i_Rel 0 u v)) := by
  have M : wq_M 14 1 := by
    unfold wq_M
    decide
  exact wq_mk (c := 0) ⟨by decide, M, M, fun n hn => absurd hn (Nat.not_lt_zero n)⟩
theorem i_vc_wall {k : Nat} {u : SX} {v : SY} (I : i_Rel k u v) (hk : k + 5 ≤ 2560) (v1 : Int32) (v2 : Int32) (v3 : Int32) (v4 : Int32) : wpX_wall (fun r u' => wpY_wall (fun r' v' => r' = r ∧ i_Rel (k + 5) u' v') v v1 v2 v3 v4) u v1 v2 v3 v4 := by
  obtain ⟨c, vx, vy, t, b, fx, fy, tx, ty, e, R, rfl, rfl⟩ := I
  obtain ⟨r, u', v', R', hX, hY⟩ := wq_wall (t := t) (b := b) R v1 v2 v3 v4
  exact hX _ (hY _ ⟨rfl, R'⟩)
theorem i_vc_unbuild {k : Nat} {u : SX} {v : SY} (I : i_Rel k u v) (hk : k + 5 ≤ 2560) : wpX_unbuild (fun r u' => wpY_unbuild (fun r' v' => r' = r ∧ i_Rel (k + 5) u' v') v) u := by
  obtain ⟨c, vx, vy, t, b, fx, fy, tx, ty, e, R, rfl, rfl⟩ := I
  match c, R with
  | 0, R => exact br_t nI_0 (br_t nI_0 ⟨rfl, wq_mk R⟩)
  | c + 1, R =>
    have h : ¬ nI (c + 1) = 0 := nI_ne0 (by omega) (by omega)
    exact br_f h (nm_r (nI_pred c) (br_f h (nm_r (nI_pred c) ⟨rfl, wq_mk ⟨by omega, R.2.1, R.2.2.1, fun n hn => R.2.2.2 n (by omega)⟩⟩)))
theorem i_vc_walls {k : Nat} {u : SX} {v : SY} (I : i_Rel k u v) (hk : k + 5 ≤ 2560) : wpX_walls (fun r => wpY_walls (fun r' => r' = r ∧ i_Rel (k + 5) u v) v) u := by
  obtain ⟨c, vx, vy, t, b, fx, fy, tx, ty, e, R, rfl, rfl⟩ := I
  exact ⟨rfl, wq_mk R⟩
theorem i_vc_coordinate {k : Nat} {u : SX} {v : SY} (I : i_Rel k u v) (hk : k + 5 ≤ 2560) (v1 : Int32) (v2 : Int32) : wpX_coordinate (fun r => wpY_coordinate (fun r' => r' = r ∧ i_Rel (k + 5) u v) v v1 v2) u v1 v2 := by
  obtain ⟨c, vx, vy, t, b, fx, fy, tx, ty, e, R, rfl, rfl⟩ := I
  have R' := wq_mk (t := t) (b := b) R
  obtain ⟨hc, _, _, W⟩ := R
  unfold wpX_coordinate wpY_coordinate
  dsimp only
  rcases pk_ix v1 (n := c) (by omega) with h | h | ⟨n, hn, rfl⟩
  · exact br_t h (br_t rfl (br_t h ⟨rfl, R'⟩))
  · have h0 : ¬ v1 < 0 := fun z => nI_pos (n := c) (by omega) (Int32.lt_of_le_of_lt h z)
    exact br_f h0 (br_t h (br_t rfl (br_f h0 (br_f (Int32.not_lt.mpr h) ⟨rfl, R'⟩))))
  · have h0 : ¬ nI n < 0 := nI_pos (by omega)
    have h1 : ¬ nI c ≤ nI n := nI_ge hn (by omega)
    have h2 : nI n < nI c := nI_lt hn (by omega)
    have hi : vp_in (nI n) 10 := vp_in_nI (by omega) (by decide)
    have en : (nI n).toNatClampNeg = n := nI_clamp (by omega)
    have hn10 : n < 10 := by omega
    obtain ⟨⟨ea, eb, ec, ed⟩, _⟩ := W n hn
    rw [en]
    refine br_f h0 (br_f h1 (br_f (by decide) ?_))
    by_cases a : v2 < 0
    · exact br_t a (br_f h0 (br_t h2 (br_t a ⟨rfl, R'⟩)))
    · by_cases g : 3 < v2
      · exact br_f a (br_t g (br_f h0 (br_t h2 (br_f a (br_f (Int32.not_le.mpr g) ⟨rfl, R'⟩)))))
      · have g' : v2 ≤ 3 := Int32.not_lt.mp g
        obtain ⟨j, hj, rfl⟩ := nI_of2 (M := 3) (n := 3) (by decide) a g'
        have ij : vp_in (4 * nI n + nI j) 40 := pk_in (4 * n + j) 40 (by omega) (wq_k0 n j)
        have cj : (4 * nI n + nI j).toNatClampNeg = 4 * n + j := pk_cl _ (wq_k0 n j)
        rw [cj]
        refine br_f a (br_f g ?_)
        match j, hj, a, g, g', ij with
        | 0, _, a, g, g', ij => exact br_t (by decide) ⟨hi, br_f h0 (br_t h2 (br_f a (br_t g' ⟨ij, ea, R'⟩)))⟩
        | 1, _, a, g, g', ij => exact br_f (by decide) (br_t (by decide) ⟨hi, br_f h0 (br_t h2 (br_f a (br_t g' ⟨ij, eb, R'⟩)))⟩)
        | 2, _, a, g, g', ij => exact br_f (by decide) (br_f (by decide) (br_t (by decide) ⟨hi, br_f h0 (br_t h2 (br_f a (br_t g' ⟨ij, ec, R'⟩)))⟩))
        | 3, _, a, g, g', ij => exact br_f (by decide) (br_f (by decide) (br_f (by decide) (br_t (by decide) ⟨hi, br_f h0 (br_t h2 (br_f a (br_t g' ⟨ij, ed, R'⟩)))⟩)))
theorem i_vc_look {k : Nat} {u : SX} {v : SY} (I : i_Rel k u v) (hk : k + 5 ≤ 2560) (v1 : Int32) (v2 : Int32) : wpX_look (fun r u' => wpY_look (fun r' v' => r' = r ∧ i_Rel (k + 5) u' v') v v1 v2) u v1 v2 := by
  obtain ⟨c, vx, vy, t, b, fx, fy, tx, ty, e, R, rfl, rfl⟩ := I
  have R' := wq_mk (t := t) (b := b) R
  obtain ⟨hc, _, _, W⟩ := R
  unfold wpX_look wpY_look
  dsimp only
  refine wq_xpl (fun a => br_f (by decide) (wq_xpl (fun b => br_f (by decide) (br_c (fun s => br_f (by decide) ?_) (fun s => br_t rfl (br_c (fun s' => br_f (by decide) ?_) (fun s' => br_t rfl ?_))))) (fun b => br_t rfl ?_))) (fun a => br_t rfl ?_)
  · exact wq_yod (fun o => absurd s o.2.2) (fun _ => br_t rfl ⟨rfl, R'⟩)
  · exact wq_yod (fun _ => br_f (by decide) (wq_yod (fun o => absurd s' o.2.2) (fun _ => br_t rfl ⟨rfl, R'⟩))) (fun _ => br_t rfl ⟨rfl, R'⟩)
  · exact wq_yod (fun _ => br_f (by decide) (wq_yod (fun _ => br_f (by decide) ⟨rfl, wq_mk ⟨hc, wq_14 a.1 a.2, wq_14 b.1 b.2, W⟩⟩) (fun o => absurd ⟨b.1, b.2, s'⟩ o))) (fun o => absurd ⟨a.1, a.2, s⟩ o)
  · exact wq_yod (fun _ => br_f (by decide) (wq_yod (fun o => absurd ⟨o.1, o.2.1⟩ b) (fun _ => br_t rfl ⟨rfl, R'⟩))) (fun _ => br_t rfl ⟨rfl, R'⟩)
  · exact wq_yod (fun o => absurd ⟨o.1, o.2.1⟩ a) (fun _ => br_t rfl ⟨rfl, R'⟩)
theorem i_vc_viewpoint {k : Nat} {u : SX} {v : SY} (I : i_Rel k u v) (hk : k + 5 ≤ 2560) : wpX_viewpoint (fun r => wpY_viewpoint (fun r' => r' = r ∧ i_Rel (k + 5) u v) v) u := by
  obtain ⟨c, vx, vy, t, b, fx, fy, tx, ty, e, R, rfl, rfl⟩ := I
  exact ⟨rfl, wq_mk R⟩
theorem i_vc_seen {k : Nat} {u : SX} {v : SY} (I : i_Rel k u v) (hk : k + 5 ≤ 2560) (v1 : Int32) (v2 : Int32) : wpX_seen (fun r => wpY_seen (fun r' v' => r' = r ∧ i_Rel (k + 5) u v') v v1 v2) u v1 v2 := by
  obtain ⟨c, vx, vy, t, b, fx, fy, tx, ty, e, R, rfl, rfl⟩ := I
  have S := wq_see R.1 R.2.1 R.2.2.1 R.2.2.2
  unfold wpX_seen
  dsimp only
  rcases wq_ray v1 v2 with ⟨l, q, ⟨hl, hq⟩, rfl, rfl⟩ | ⟨hX, hY⟩
  · obtain ⟨s, _, sX, sY⟩ := S l q hl hq
    exact wq_xlk hl (br_f (by decide) (wq_xcl hq (br_f (by decide) (sX _ (sY _ t b fun t' b' => ⟨rfl, wq_mk R⟩)))))
  · refine hX _ _ ?_
    unfold wpY_seen
    dsimp only
    exact hY _ _ (br_t rfl ⟨rfl, wq_mk R⟩)
theorem i_vc_depth {k : Nat} {u : SX} {v : SY} (I : i_Rel k u v) (hk : k + 5 ≤ 2560) (v1 : Int32) (v2 : Int32) : wpX_depth (fun r => wpY_depth (fun r' v' => r' = r ∧ i_Rel (k + 5) u v') v v1 v2) u v1 v2 := by
  obtain ⟨c, vx, vy, t, b, fx, fy, tx, ty, e, R, rfl, rfl⟩ := I
  have S := wq_see R.1 R.2.1 R.2.2.1 R.2.2.2
  unfold wpX_depth
  dsimp only
  rcases wq_ray v1 v2 with ⟨l, q, ⟨hl, hq⟩, rfl, rfl⟩ | ⟨hX, hY⟩
  · obtain ⟨s, G, sX, sY⟩ := S l q hl hq
    refine wq_xlk hl (br_f (by decide) (wq_xcl hq (br_f (by decide) (sX _ ?_))))
    rcases G with rfl | ⟨n, hn, rfl, H⟩
    · refine br_t (by decide) (br_t rfl ?_)
      unfold wpY_depth
      dsimp only
      exact sY _ t b fun t' b' => br_f (by decide) ⟨rfl, wq_mk R⟩
    · have hc := R.1
      have hn10 : n < 10 := by omega
      obtain ⟨E, M⟩ := R.2.2.2 n hn
      have D : wq_D (fx n) (fy n) (tx n) (ty n) vx vy (wq_rx l q) (wq_ry l q) := ⟨M, ⟨R.2.1, R.2.2.1⟩, wq_Bx hl hq, wq_By hl hq⟩
      have hB : ¬ wq_B (fx n) (fy n) (tx n) (ty n) (wq_rx l q) (wq_ry l q) ≤ 0 := Int32.not_le.mpr H.1
      have hB0 : ¬ wq_B (fx n) (fy n) (tx n) (ty n) (wq_rx l q) (wq_ry l q) = 0 := by
        intro z
        rw [z] at hB
        exact hB (by decide)
      have hb : ¬ wq_b (fx n) (fy n) (tx n) (ty n) (wq_rx l q) (wq_ry l q) = 0 := by
        intro z
        apply hB0
        unfold wq_B
        rw [z]
        decide
      refine br_f (nI_pos (by omega)) (br_f (nI_ge hn (by omega)) (br_f (by decide) (wq_xrx hl (wq_xry hl (wq_xbot hn10 (br_f hb (wq_xtop hn10 ⟨hb, ?_⟩)))))))
      unfold wpY_depth
      dsimp only
      exact sY _ t b fun t' b' => br_t (nI_pos' (by omega)) (wq_yhits hn10 hl E (fun _ => br_f (by decide) (br_f hB ⟨hB0, (wq_quot D).symm, wq_mk R⟩)) (fun z => absurd H z))
  · refine hX _ _ ?_
    unfold wpY_depth wpY_seen
    dsimp only
    exact hY _ _ (br_t rfl (br_f (by decide) ⟨rfl, wq_mk R⟩))
theorem i_vc_share {k : Nat} {u : SX} {v : SY} (I : i_Rel k u v) (hk : k + 5 ≤ 2560) (v1 : Int32) : wpX_share (fun r => wpY_share (fun r' v' => r' = r ∧ i_Rel (k + 5) u v') v v1) u v1 := by
  obtain ⟨c, vx, vy, t, b, fx, fy, tx, ty, e, R, rfl, rfl⟩ := I
  have S := wq_see R.1 R.2.1 R.2.2.1 R.2.2.2
  have hc := R.1
  unfold wpX_share wpY_share
  dsimp only
  rcases pk_ix v1 (n := c) (by omega) with h | h | ⟨n, hn, rfl⟩
  · exact br_t h (br_t rfl (br_t h ⟨rfl, wq_mk R⟩))
  · have h0 : ¬ v1 < 0 := fun z => nI_pos (n := c) (by omega) (Int32.lt_of_le_of_lt h z)
    exact br_f h0 (br_t h (br_t rfl (br_f h0 (br_f (Int32.not_lt.mpr h) ⟨rfl, wq_mk R⟩))))
  · have h0 : ¬ nI n < 0 := nI_pos (by omega)
    obtain ⟨r, rX, rY⟩ := wq_rays S (nI n)
    exact br_f h0 (br_f (nI_ge hn (by omega)) (br_f (by decide) (rX _ (br_f h0 (br_t (nI_lt hn (by omega)) (rY _ t b fun t' b' => ⟨rfl, wq_mk R⟩))))))
theorem i_vc_openRays {k : Nat} {u : SX} {v : SY} (I : i_Rel k u v) (hk : k + 5 ≤ 2560) : wpX_openRays (fun r => wpY_openRays (fun r' v' => r' = r ∧ i_Rel (k + 5) u v') v) u := by
  obtain ⟨c, vx, vy, t, b, fx, fy, tx, ty, e, R, rfl, rfl⟩ := I
  obtain ⟨r, rX, rY⟩ := wq_rays (wq_see R.1 R.2.1 R.2.2.1 R.2.2.2) (-4)
  unfold wpX_openRays wpY_openRays
  dsimp only
  exact rX _ (rY _ t b fun t' b' => ⟨rfl, wq_mk R⟩)
theorem i_vc_visible {k : Nat} {u : SX} {v : SY} (I : i_Rel k u v) (hk : k + 5 ≤ 2560) (v1 : Int32) : wpX_visible (fun r => wpY_visible (fun r' v' => r' = r ∧ i_Rel (k + 5) u v') v v1) u v1 := by
  obtain ⟨c, vx, vy, t, b, fx, fy, tx, ty, e, R, rfl, rfl⟩ := I
  have S := wq_see R.1 R.2.1 R.2.2.1 R.2.2.2
  unfold wpX_visible wpY_visible
  dsimp only
  rcases wq_look v1 with h | ⟨h0, h4, _, h3⟩ | ⟨l, hl, rfl⟩
  · exact br_t h (br_t rfl (br_t h ⟨rfl, wq_mk R⟩))
  · exact br_f h0 (br_t h4 (br_t rfl (br_f h0 (br_f h3 ⟨rfl, wq_mk R⟩))))
  · obtain ⟨r, rX, rY⟩ := wq_vis R.1 S hl c 0 (by omega) 0
    rw [nI_0] at rX rY
    exact wq_xlk hl (br_f (by decide) ⟨_, rX _ (br_f (nI_pos (by omega)) (br_t (nI_le (b := 3) (by omega) (by decide)) ⟨_, rY _ t b fun t' b' => ⟨rfl, wq_mk R⟩⟩))⟩)
theorem i_vc_edge {k : Nat} {u : SX} {v : SY} (I : i_Rel k u v) (hk : k + 5 ≤ 2560) (v1 : Int32) : wpX_edge (fun r => wpY_edge (fun r' v' => r' = r ∧ i_Rel (k + 5) u v') v v1) u v1 := by
  obtain ⟨c, vx, vy, t, b, fx, fy, tx, ty, e, R, rfl, rfl⟩ := I
  have S := wq_see R.1 R.2.1 R.2.2.1 R.2.2.2
  unfold wpX_edge wpY_edge
  dsimp only
  rcases wq_look v1 with h | ⟨h0, h4, _, h3⟩ | ⟨l, hl, rfl⟩
  · exact br_t h (br_t rfl (br_t h ⟨rfl, wq_mk R⟩))
  · exact br_f h0 (br_t h4 (br_t rfl (br_f h0 (br_f h3 ⟨rfl, wq_mk R⟩))))
  · obtain ⟨r, rX, rY⟩ := wq_edge S hl 15 0 (by omega)
    rw [nI_0] at rX rY
    exact wq_xlk hl (br_f (by decide) ⟨_, rX _ (br_f (nI_pos (by omega)) (br_t (nI_le (b := 3) (by omega) (by decide)) ⟨_, rY _ t b fun t' b' => ⟨rfl, wq_mk R⟩⟩))⟩)

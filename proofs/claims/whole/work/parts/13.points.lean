/-! leafOf, score, depth, leavesAlong, bestValue -/
section
variable {t s P : Nat} {c l e d : Nat → Nat} {lo hi : Nat → Nat → Nat} {w : Nat → Int32} {SZ AK NM LW HG LC LV FA BL BG AS : Nat → Int32}
/-- what both sides say of point P in tree t: leaf i, depth g, value x -/
def zr_P (t P : Nat) (LC LV FA BL BG AS SZ AK NM LW HG : Nat → Int32) (i g : Nat) (x : Int32) : Prop :=
  i < 8 ∧ g ≤ 7 ∧ LV (8 * t + i) = x ∧ FA (8 * t + i) = nI g ∧ (∀ post : Int32 → Prop, post (nI i) → wpX_findLeaf post (LC, LV, FA, BL, BG, AS) (nI t) (nI P)) ∧
  (∀ post : Int32 → Prop, post (nI (i + 16 * g)) → wpY_walk post (SZ, AK, NM, LW, HG) (nI t) (nI P)) ∧ (∀ post : Int32 → Prop, post x → wpY_value post (SZ, AK, NM, LW, HG) (nI t) (nI i))
theorem zr_pt1 (h : zr_T t LC LV FA BL BG AS SZ AK NM) (ht : t < 4) (hP : P < 65536) : ∃ i g x, zr_P t P LC LV FA BL BG AS SZ AK NM LW HG i g x := by
  obtain ⟨s, c, l, e, d, lo, hi, w, H, hX, hY⟩ := h
  obtain ⟨p, hp, hc, hx⟩ := zt_has H (x := za_f P) (fun f _ => za_f15 P f)
  have h8 := zt_lb_8 H
  have hlt := zt_lb_lt hp hc
  obtain ⟨x1, x2, x3⟩ := hX.2.1 p hp hc
  exact ⟨zt_lb c p, d p, w p, by omega, (zt_dep H hp).1, x1, x2, fun post h => zx_findLeaf H hX ht hP hp hc hx h, fun post h => zy_walk H hY ht hP hp hc hx h,
    fun post h => zy_value H hY ht (fun p' hp' hc' z => by rw [zt_lbI H hp' hp hc' hc z]; exact h) (fun z => absurd rfl (z p hp hc))⟩
theorem zr_pt (I : ∀ t, t < 4 → zr_T t LC LV FA BL BG AS SZ AK NM) (hP : P < 65536) : ∃ (i g : Nat → Nat) (x : Nat → Int32), ∀ t, t < 4 → zr_P t P LC LV FA BL BG AS SZ AK NM LW HG (i t) (g t) (x t) := by
  have K : ∀ t : Nat, ∃ y : Nat × Nat × Int32, t < 4 → zr_P t P LC LV FA BL BG AS SZ AK NM LW HG y.1 y.2.1 y.2.2 := fun t => by
    by_cases ht : t < 4
    · obtain ⟨i, g, x, h⟩ := zr_pt1 (LW := LW) (HG := HG) (I t ht) ht hP
      exact ⟨(i, g, x), fun _ => h⟩
    · exact ⟨(0, 0, 0), fun z => absurd z ht⟩
  obtain ⟨f, hf⟩ := Classical.axiomOfChoice K
  exact ⟨fun t => (f t).1, fun t => (f t).2.1, fun t => (f t).2.2, fun t ht => hf t ht⟩
theorem za_r16 {i g : Nat} (hi : i < 8) (hg : g ≤ 7) : nI (i + 16 * g) - nI (i + 16 * g) / 16 * 16 = nI i := by
  have := pk_rem (a := i + 16 * g) (d := 16) (by omega) (by omega) (by omega)
  rw [show (i + 16 * g) % 16 = i from by omega] at this
  exact this
theorem za_d16 {i g : Nat} (hi : i < 8) (hg : g ≤ 7) : nI (i + 16 * g) / 16 = nI g := by
  have := pk_div (a := i + 16 * g) (d := 16) (by omega) (by omega) (by omega)
  rw [show (i + 16 * g) / 16 = g from by omega] at this
  exact this
theorem zx_sum_l {i g : Nat → Nat} {x : Nat → Int32} (K : ∀ t, t < 4 → zr_P t P LC LV FA BL BG AS SZ AK NM LW HG (i t) (g t) (x t)) {post : Int32 → Prop} (h : post (za_sum x 4)) :
    ∀ k q, q + k = 4 → wX_sumOfValues_4 post (nI P) LC LV FA BL BG AS (k + 1) (za_sum x q) (nI q) := by
  intro k
  induction k with
  | zero =>
    intro q hq
    have hq' : q = 4 := by omega
    rw [hq']
    exact br_t (by decide) h
  | succ k ih =>
    intro q hq
    obtain ⟨h1, h2, h3, h4, h5, h6, h7⟩ := K q (by omega)
    refine br_f (nI_ge (b := 4) (by omega) (by omega)) (h5 _ (zx_slot ⟨vp_in_nI (by omega) (by omega), ?_⟩))
    rw [nI_clamp (by omega), h3]
    exact nm_e (nm_r (nI_1 q) (ih (q + 1) (by omega)))
theorem zy_sum_l {i g : Nat → Nat} {x : Nat → Int32} (hP : P < 65536) (K : ∀ t, t < 4 → zr_P t P LC LV FA BL BG AS SZ AK NM LW HG (i t) (g t) (x t)) {post : Int32 → Prop} (h : post (za_sum x 4)) :
    ∀ k q, q + k = 4 → wY_score_4 post (nI P) SZ AK NM LW HG (k + 1) (za_sum x q) (nI q) := by
  intro k
  induction k with
  | zero =>
    intro q hq
    have hq' : q = 4 := by omega
    rw [hq']
    exact br_t (by decide) h
  | succ k ih =>
    intro q hq
    obtain ⟨h1, h2, h3, h4, h5, h6, h7⟩ := K q (by omega)
    exact br_f (nI_ge (b := 4) (by omega) (by omega)) (zy_point_t hP (br_f (by decide) (h6 _ ⟨by decide, nm_r (za_r16 h1 h2) (h7 _ (nm_e (nm_r (nI_1 q) (ih (q + 1) (by omega)))))⟩)))
theorem zr_score (I : ∀ t, t < 4 → zr_T t LC LV FA BL BG AS SZ AK NM) (hP : P < 65536) :
    ∃ r : Int32, (∀ post : Int32 → Prop, post r → wpX_sumOfValues post (LC, LV, FA, BL, BG, AS) (nI P)) ∧ (∀ post : Int32 → Prop, post r → wpY_score post (SZ, AK, NM, LW, HG) (nI P)) := by
  obtain ⟨i, g, x, K⟩ := zr_pt (LW := LW) (HG := HG) I hP
  exact ⟨za_sum x 4, fun post h => ⟨5, zx_sum_l K h 4 0 rfl⟩, fun post h => ⟨5, zy_sum_l hP K h 4 0 rfl⟩⟩
theorem zx_dep_l {i g : Nat → Nat} {x : Nat → Int32} (K : ∀ t, t < 4 → zr_P t P LC LV FA BL BG AS SZ AK NM LW HG (i t) (g t) (x t)) {post : Int32 → Prop} (h : post (za_sum (fun t => nI (g t)) 4)) :
    ∀ k q, q + k = 4 → wX_depth_13 post (nI P) LC LV FA BL BG AS (k + 1) (za_sum (fun t => nI (g t)) q) (nI q) := by
  intro k
  induction k with
  | zero =>
    intro q hq
    have hq' : q = 4 := by omega
    rw [hq']
    exact br_t (by decide) h
  | succ k ih =>
    intro q hq
    obtain ⟨h1, h2, h3, h4, h5, h6, h7⟩ := K q (by omega)
    refine br_f (nI_ge (b := 4) (by omega) (by omega)) (h5 _ (zx_slot ⟨vp_in_nI (by omega) (by omega), ?_⟩))
    rw [nI_clamp (by omega), h4]
    exact nm_e (nm_r (nI_1 q) (ih (q + 1) (by omega)))
theorem zy_dep_l {i g : Nat → Nat} {x : Nat → Int32} (hP : P < 65536) (K : ∀ t, t < 4 → zr_P t P LC LV FA BL BG AS SZ AK NM LW HG (i t) (g t) (x t)) {post : Int32 → Prop} (h : post (za_sum (fun t => nI (g t)) 4)) :
    ∀ k q, q + k = 4 → wY_depth_4 post (nI P) SZ AK NM LW HG (k + 1) (za_sum (fun t => nI (g t)) q) (nI q) := by
  intro k
  induction k with
  | zero =>
    intro q hq
    have hq' : q = 4 := by omega
    rw [hq']
    refine br_t (by decide) ?_
    unfold wY_depth_35
    exact zy_point_t hP (br_f (by decide) h)
  | succ k ih =>
    intro q hq
    obtain ⟨h1, h2, h3, h4, h5, h6, h7⟩ := K q (by omega)
    exact br_f (nI_ge (b := 4) (by omega) (by omega)) (zy_point_t hP (br_f (by decide) (h6 _ ⟨by decide, nm_r (by rw [za_d16 h1 h2]; rfl) (nm_r (nI_1 q) (ih (q + 1) (by omega)))⟩)))
theorem zr_with {f x : Nat} (hP : P < 65536) (hf : f < 4) (hx : x ≤ 15) : ∃ m, m < 65536 ∧ (∀ post : Int32 → Prop, post (nI m) → wpX_withFeature post (nI P) (nI f) (nI x)) ∧ (∀ post : Int32 → Prop, post (nI m) → wpY_with post (SZ, AK, NM, LW, HG) (nI P) (nI f) (nI x)) := by
  obtain ⟨m, hm, em⟩ := za_with hP hf hx (((15 : Int32) <<< (nI (4 * f) &&& 31)) ^^^ (-1))
  refine ⟨m, hm, fun post h => ?_, fun post h => ?_⟩
  · have e4 : nI f * 4 = nI (4 * f) := by rw [show (4 : Int32) = nI 4 from rfl, pk_mul, Nat.mul_comm]
    intro y ey
    rw [ey, e4, em]
    exact h
  · have e4 : 4 * nI f = nI (4 * f) := pk_mul 4 f
    unfold wpY_with
    dsimp only
    rw [e4, em]
    exact h
theorem zr_along {f : Nat} (hT : zr_T t LC LV FA BL BG AS SZ AK NM) (ht : t < 4) (hP : P < 65536) (hf : f < 4) : ∀ k q a, q + k = 16 →
    ∃ r : Int32, (∀ post : Int32 → Prop, post r → wX_leavesAlong_29 post (nI t) (nI P) (nI f) LC LV FA BL BG AS (k + 1) a (nI q)) ∧ (∀ post : Int32 → Prop, post r → wY_leavesAlong_6 post (nI t) (nI P) (nI f) SZ AK NM LW HG (k + 1) a (nI q)) := by
  intro k
  induction k with
  | zero =>
    intro q a hq
    have hq' : q = 16 := by omega
    rw [hq']
    exact ⟨a, fun post h => br_t (by decide) h, fun post h => br_t (by decide) h⟩
  | succ k ih =>
    intro q a hq
    obtain ⟨m, hm, mx, my⟩ := zr_with (SZ := SZ) (AK := AK) (NM := NM) (LW := LW) (HG := HG) hP hf (x := q) (by omega)
    obtain ⟨i, g, x, h1, h2, h3, h4, h5, h6, h7⟩ := zr_pt1 (LW := LW) (HG := HG) hT ht hm
    obtain ⟨r, rx, ry⟩ := ih (q + 1) (a ||| ((1 : Int32) <<< (nI i &&& 31))) (by omega)
    refine ⟨r, fun post h => ?_, fun post h => ?_⟩
    · exact br_f (nI_nlt (a := 15) (by omega) (by omega)) (mx _ (h5 _ (nm_e (nm_r (nI_1 q) (rx post h)))))
    · refine br_f (nI_ge (b := 16) (by omega) (by omega)) (zy_tree_t ht (br_f (by decide) (zy_point_t hP (br_f (by decide) (br_f (nI_pos (by omega)) (br_f (nI_nlt (a := 3) (by omega) (by omega)) (my _ (h6 _ ⟨by decide, ?_⟩))))))))
      rw [za_r16 h1 h2]
      exact nm_e (nm_r (nI_1 q) (ry post h))
theorem zr_best {f : Nat} (I : ∀ t, t < 4 → zr_T t LC LV FA BL BG AS SZ AK NM) (hP : P < 65536) (hf : f < 4) : ∀ k q b m, q + k = 16 →
    ∃ r : Int32, (∀ post : Int32 → Prop, post r → wX_bestValue_37 post (nI P) (nI f) LC LV FA BL BG AS (k + 1) b m (nI q)) ∧ (∀ post : Int32 → Prop, post r → wY_bestValue_41 post (nI P) (nI f) SZ AK NM LW HG (k + 1) b m (nI q)) := by
  intro k
  induction k with
  | zero =>
    intro q b m hq
    have hq' : q = 16 := by omega
    rw [hq']
    exact ⟨b, fun post h => br_t (by decide) h, fun post h => br_t (by decide) h⟩
  | succ k ih =>
    intro q b m hq
    obtain ⟨o, ho, mx, my⟩ := zr_with (SZ := SZ) (AK := AK) (NM := NM) (LW := LW) (HG := HG) hP hf (x := q) (by omega)
    obtain ⟨v, vx, vy⟩ := zr_score (LW := LW) (HG := HG) I ho
    by_cases hv : v ≤ m
    · obtain ⟨r, rx, ry⟩ := ih (q + 1) b m (by omega)
      refine ⟨r, fun post h => ?_, fun post h => ?_⟩
      · exact br_f (nI_nlt (a := 15) (by omega) (by omega)) (mx _ (vx _ (br_t hv (nm_r (nI_1 q) (rx post h)))))
      · exact br_f (nI_ge (b := 16) (by omega) (by omega)) (my _ (vy _ (br_t hv (br_t hv (nm_r (nI_1 q) (ry post h))))))
    · obtain ⟨r, rx, ry⟩ := ih (q + 1) (nI q) v (by omega)
      refine ⟨r, fun post h => ?_, fun post h => ?_⟩
      · exact br_f (nI_nlt (a := 15) (by omega) (by omega)) (mx _ (vx _ (br_f hv (nm_r (nI_1 q) (rx post h)))))
      · exact br_f (nI_ge (b := 16) (by omega) (by omega)) (my _ (vy _ (br_f hv (br_f hv (nm_r (nI_1 q) (ry post h))))))
end
theorem i_vc_leafOf {k : Nat} {u : SX} {v : SY} (I : i_Rel k u v) (hk : k + 5 ≤ 2560) (v1 : Int32) (v2 : Int32) : wpX_leafOf (fun r => wpY_leafOf (fun r' => r' = r ∧ i_Rel (k + 5) u v) v v1 v2) u v1 v2 := by
  obtain ⟨LC, LV, FA, BL, BG, AS⟩ := u
  obtain ⟨SZ, AK, NM, LW, HG⟩ := v
  unfold wpX_leafOf wpY_leafOf
  dsimp only
  rcases za_tree v1 with hb | ⟨t, ht, rfl⟩
  · exact zx_isTree_f hb (br_t rfl (zy_tree_f hb (br_t rfl ⟨rfl, I⟩)))
  · rcases za_point v2 with hb | ⟨P, hP, rfl⟩
    · exact zx_isTree_t ht (br_f (by decide) (zx_isPoint_f hb (br_t rfl (zy_tree_t ht (br_f (by decide) (zy_point_f hb (br_t rfl ⟨rfl, I⟩)))))))
    · obtain ⟨i, g, x, h1, h2, h3, h4, h5, h6, h7⟩ := zr_pt1 (LW := LW) (HG := HG) (I t ht) ht hP
      exact zx_isTree_t ht (br_f (by decide) (zx_isPoint_t hP (br_f (by decide) (h5 _ (zy_tree_t ht (br_f (by decide) (zy_point_t hP (br_f (by decide) (h6 _ ⟨by decide, za_r16 h1 h2, I⟩)))))))))
theorem i_vc_score {k : Nat} {u : SX} {v : SY} (I : i_Rel k u v) (hk : k + 5 ≤ 2560) (v1 : Int32) : wpX_score (fun r => wpY_score (fun r' => r' = r ∧ i_Rel (k + 5) u v) v v1) u v1 := by
  obtain ⟨LC, LV, FA, BL, BG, AS⟩ := u
  obtain ⟨SZ, AK, NM, LW, HG⟩ := v
  unfold wpX_score
  dsimp only
  rcases za_point v1 with hb | ⟨P, hP, rfl⟩
  · exact zx_isPoint_f hb (br_t rfl ⟨1, br_f (by decide) (zy_point_f hb (br_t rfl ⟨rfl, I⟩))⟩)
  · obtain ⟨r, rx, ry⟩ := zr_score (LW := LW) (HG := HG) I hP
    exact zx_isPoint_t hP (br_f (by decide) (rx _ (ry _ ⟨rfl, I⟩)))
theorem i_vc_depth {k : Nat} {u : SX} {v : SY} (I : i_Rel k u v) (hk : k + 5 ≤ 2560) (v1 : Int32) : wpX_depth (fun r => wpY_depth (fun r' => r' = r ∧ i_Rel (k + 5) u v) v v1) u v1 := by
  obtain ⟨LC, LV, FA, BL, BG, AS⟩ := u
  obtain ⟨SZ, AK, NM, LW, HG⟩ := v
  unfold wpX_depth
  dsimp only
  rcases za_point v1 with hb | ⟨P, hP, rfl⟩
  · refine zx_isPoint_f hb (br_t rfl ⟨1, br_f (by decide) (zy_point_f hb (br_t rfl ?_))⟩)
    unfold wY_depth_35
    exact zy_point_f hb (br_t rfl ⟨rfl, I⟩)
  · obtain ⟨i, g, x, K⟩ := zr_pt (LW := LW) (HG := HG) I hP
    exact zx_isPoint_t hP (br_f (by decide) ⟨5, zx_dep_l K ⟨5, zy_dep_l hP K ⟨rfl, I⟩ 4 0 rfl⟩ 4 0 rfl⟩)
theorem i_vc_leavesAlong {k : Nat} {u : SX} {v : SY} (I : i_Rel k u v) (hk : k + 5 ≤ 2560) (v1 : Int32) (v2 : Int32) (v3 : Int32) : wpX_leavesAlong (fun r => wpY_leavesAlong (fun r' => r' = r ∧ i_Rel (k + 5) u v) v v1 v2 v3) u v1 v2 v3 := by
  obtain ⟨LC, LV, FA, BL, BG, AS⟩ := u
  obtain ⟨SZ, AK, NM, LW, HG⟩ := v
  unfold wpX_leavesAlong
  dsimp only
  rcases za_tree v1 with hb | ⟨t, ht, rfl⟩
  · exact zx_isTree_f hb (br_t rfl ⟨1, br_f (by decide) (zy_tree_f hb (br_t rfl ⟨rfl, I⟩))⟩)
  · rcases za_point v2 with hb | ⟨P, hP, rfl⟩
    · exact zx_isTree_t ht (br_f (by decide) (zx_isPoint_f hb (br_t rfl ⟨1, br_f (by decide) (zy_tree_t ht (br_f (by decide) (zy_point_f hb (br_t rfl ⟨rfl, I⟩))))⟩)))
    · rcases za_tree v3 with hb | ⟨f, hf, rfl⟩
      · refine zx_isTree_t ht (br_f (by decide) (zx_isPoint_t hP (br_f (by decide) (zx_isFeature_f hb (br_t rfl ⟨1, br_f (by decide) (zy_tree_t ht (br_f (by decide) (zy_point_t hP (br_f (by decide) ?_))))⟩)))))
        by_cases h0 : v3 < 0
        · exact br_t h0 ⟨rfl, I⟩
        · exact br_f h0 (br_t (Int32.lt_of_lt_of_le (by decide) (hb.resolve_left h0)) ⟨rfl, I⟩)
      · obtain ⟨r, rx, ry⟩ := zr_along (LW := LW) (HG := HG) (I t ht) ht hP hf 16 0 0 rfl
        exact zx_isTree_t ht (br_f (by decide) (zx_isPoint_t hP (br_f (by decide) (zx_isFeature_t hf (br_f (by decide) ⟨17, rx _ ⟨17, ry _ ⟨rfl, I⟩⟩⟩)))))
theorem i_vc_bestValue {k : Nat} {u : SX} {v : SY} (I : i_Rel k u v) (hk : k + 5 ≤ 2560) (v1 : Int32) (v2 : Int32) : wpX_bestValue (fun r => wpY_bestValue (fun r' => r' = r ∧ i_Rel (k + 5) u v) v v1 v2) u v1 v2 := by
  obtain ⟨LC, LV, FA, BL, BG, AS⟩ := u
  obtain ⟨SZ, AK, NM, LW, HG⟩ := v
  unfold wpX_bestValue wpY_bestValue
  dsimp only
  rcases za_point v1 with hb | ⟨P, hP, rfl⟩
  · exact zx_isPoint_f hb (br_t rfl (zy_point_f hb (br_t rfl ⟨rfl, I⟩)))
  · rcases za_tree v2 with hb | ⟨f, hf, rfl⟩
    · refine zx_isPoint_t hP (br_f (by decide) (zx_isFeature_f hb (br_t rfl (zy_point_t hP (br_f (by decide) ?_)))))
      by_cases h0 : v2 < 0
      · exact br_t h0 ⟨rfl, I⟩
      · exact br_f h0 (br_f (fun z => absurd (Int32.le_trans (hb.resolve_left h0) z) (by decide)) ⟨rfl, I⟩)
    · obtain ⟨o, ho, mx, my⟩ := zr_with (SZ := SZ) (AK := AK) (NM := NM) (LW := LW) (HG := HG) hP hf (x := 0) (by omega)
      obtain ⟨v, vx, vy⟩ := zr_score (LW := LW) (HG := HG) I ho
      obtain ⟨r, rx, ry⟩ := zr_best (LW := LW) (HG := HG) I hP hf 15 1 0 v rfl
      exact zx_isPoint_t hP (br_f (by decide) (zx_isFeature_t hf (br_f (by decide) (mx _ (vx _ ⟨16, rx _ (zy_point_t hP (br_f (by decide) (br_f (nI_pos (by omega)) (br_t (nI_le (b := 3) (by omega) (by omega)) (my _ (vy _ ⟨16, ry _ ⟨rfl, I⟩⟩))))))⟩)))))

/-! reachable, range -/
section
variable {t s : Nat} {c l e d : Nat → Nat} {lo hi : Nat → Nat → Nat} {w : Nat → Int32} {SZ AK NM LW HG LC LV FA BL BG AS : Nat → Int32}
theorem zy_re_bad {t a : Int32} {post : Int32 → SY → Prop} (ht : t < 0 ∨ 4 ≤ t) (h : post a (SZ, AK, NM, LW, HG)) : ∀ k q, q + k = 8 → wY_reachable_4 post t (k + 1) a (nI q) SZ AK NM LW HG := by
  intro k
  induction k with
  | zero =>
    intro q hq
    have hq' : q = 8 := by omega
    rw [hq']
    exact br_t (by decide) h
  | succ k ih =>
    intro q hq
    exact br_f (nI_ge (b := 8) (by omega) (by omega)) (zy_box_bad ht (br_t rfl (nm_r (nI_1 q) (ih (q + 1) (by omega)))))
theorem zy_re_end (H : zt_ok s c l e d lo hi) (hY : zr_Y t s c l w SZ AK NM) (ht : t < 4) {a : Int32} {post : Int32 → SY → Prop} (h : ∀ LW HG, post a (SZ, AK, NM, LW, HG)) : ∀ k q LW HG, q + k = 8 → zt_lb c s ≤ q → wY_reachable_4 post (nI t) (k + 1) a (nI q) SZ AK NM LW HG := by
  intro k
  induction k with
  | zero =>
    intro q LW HG hq hn
    have hq' : q = 8 := by omega
    rw [hq']
    exact br_t (by decide) (h LW HG)
  | succ k ih =>
    intro q LW HG hq hn
    have hno : ∀ p, p < s → c p = 4 → nI (zt_lb c p) ≠ nI q := fun p hp hc z => by
      have := zt_lb_lt hp hc
      rw [nI_eq (by omega) (by omega)] at z
      omega
    exact br_f (nI_ge (b := 8) (by omega) (by omega)) (zy_box H hY ht (fun p LW HG hp hc z => absurd z (hno p hp hc)) (fun p LW HG hp hc z => absurd z (hno p hp hc)) (fun _ => br_t rfl (nm_r (nI_1 q) (ih (q + 1) LW HG (by omega) (by omega)))))
theorem zr_re (H : zt_ok s c l e d lo hi) (hX : zr_X t s c d lo hi w LC LV FA BL BG AS) (hY : zr_Y t s c l w SZ AK NM) (ht : t < 4) : ∀ k q a, q + k = zt_lb c s →
    ∃ r : Int32, (∀ post : Int32 → Prop, post r → wX_reachable_13 post (nI t) LC LV FA BL BG AS (k + 1) a (nI q)) ∧
      (∀ post : Int32 → SY → Prop, (∀ LW HG, post r (SZ, AK, NM, LW, HG)) → ∀ LW HG, wY_reachable_4 post (nI t) (8 - q + 1) a (nI q) SZ AK NM LW HG) := by
  have h8 := zt_lb_8 H
  have et : LC (nI t).toNatClampNeg = nI (zt_lb c s) := by rw [nI_clamp (by omega)]; exact hX.1
  have it : vp_in (nI t) 4 := vp_in_nI ht (by omega)
  intro k
  induction k with
  | zero =>
    intro q a hq
    refine ⟨a, fun post h => ⟨it, br_t ?_ h⟩, fun post h LW HG => zy_re_end H hY ht h (8 - q) q LW HG (by omega) (by omega)⟩
    rw [et]; exact nI_le (by omega) (by omega)
  | succ k ih =>
    intro q a hq
    obtain ⟨p, hp, hc, hl⟩ := zt_lb_ex (c := c) s q (by omega)
    have hb := (hX.2.1 p hp hc).2.2
    rw [hl] at hb
    have hge : ¬ LC (nI t).toNatClampNeg ≤ nI q := by rw [et]; exact nI_ge (by omega) (by omega)
    have huq : ∀ p', p' < s → c p' = 4 → nI (zt_lb c p') = nI q → p' = p := fun p' hp' hc' z => zt_lbI H hp' hp hc' hc (by rw [hl]; exact z)
    have hno : ¬ ∀ p, p < s → c p = 4 → nI (zt_lb c p) ≠ nI q := fun z => z p hp hc (by rw [hl])
    by_cases hne : zt_ne lo hi p
    · obtain ⟨r, rx, ry⟩ := ih (q + 1) (a ||| ((1 : Int32) <<< (nI q &&& 31))) (by omega)
      refine ⟨r, fun post h => ⟨it, br_f hge (zx_slot (zx_hasPoint H hp (by omega) hb (fun _ => br_f (by decide) (nm_e (nm_r (nI_1 q) (rx post h)))) (fun z => absurd hne z)))⟩, fun post h LW HG => ?_⟩
      rw [show 8 - q + 1 = (8 - (q + 1) + 1) + 1 from by omega]
      exact br_f (nI_ge (b := 8) (by omega) (by omega)) (zy_box H hY ht (fun p' LW HG hp' hc' z _ _ => br_f (by decide) (nm_e (nm_r (nI_1 q) (ry post h LW HG)))) (fun p' LW HG hp' hc' z y => absurd hne (by rw [← huq p' hp' hc' z]; exact y)) (fun z => absurd z hno))
    · obtain ⟨r, rx, ry⟩ := ih (q + 1) a (by omega)
      refine ⟨r, fun post h => ⟨it, br_f hge (zx_slot (zx_hasPoint H hp (by omega) hb (fun z => absurd z hne) (fun _ => br_t rfl (nm_r (nI_1 q) (rx post h)))))⟩, fun post h LW HG => ?_⟩
      rw [show 8 - q + 1 = (8 - (q + 1) + 1) + 1 from by omega]
      exact br_f (nI_ge (b := 8) (by omega) (by omega)) (zy_box H hY ht (fun p' LW HG hp' hc' z _ y => absurd y (by rw [huq p' hp' hc' z]; exact hne)) (fun p' LW HG hp' hc' z y => br_t rfl (nm_r (nI_1 q) (ry post h LW HG))) (fun z => absurd z hno))
end
theorem i_vc_reachable {k : Nat} {u : SX} {v : SY} (I : i_Rel k u v) (hk : k + 5 ≤ 2560) (v1 : Int32) : wpX_reachable (fun r => wpY_reachable (fun r' v' => r' = r ∧ i_Rel (k + 5) u v') v v1) u v1 := by
  obtain ⟨LC, LV, FA, BL, BG, AS⟩ := u
  obtain ⟨SZ, AK, NM, LW, HG⟩ := v
  unfold wpX_reachable
  dsimp only
  rcases za_tree v1 with hb | ⟨t, ht, rfl⟩
  · exact zx_isTree_f hb (br_t rfl ⟨9, zy_re_bad hb ⟨rfl, I⟩ 8 0 rfl⟩)
  · obtain ⟨s, c, l, e, d, lo, hi, w, H, hX, hY⟩ := I t ht
    obtain ⟨r, rx, ry⟩ := zr_re H hX hY ht (zt_lb c s) 0 0 (Nat.zero_add _)
    exact zx_isTree_t ht (br_f (by decide) ⟨zt_lb c s + 1, rx _ ⟨9, ry _ (fun LW HG => ⟨rfl, I⟩) LW HG⟩⟩)
theorem za_w01 {x : Int32} (h0 : ¬ x = 0) (h1 : ¬ x = 1) : x < 0 ∨ ¬ x ≤ 1 := by
  by_cases hn : x < 0
  · exact Or.inl hn
  · obtain ⟨j, hj, rfl⟩ := nI_of hn
    refine Or.inr (fun z => ?_)
    have z' : nI j ≤ nI 1 := z
    rw [nI_leI hj (by omega)] at z'
    have hj2 : j = 0 ∨ j = 1 := by omega
    rcases hj2 with y | y
    · exact h0 (by rw [y]; rfl)
    · exact h1 (by rw [y]; rfl)
theorem i_vc_range {k : Nat} {u : SX} {v : SY} (I : i_Rel k u v) (hk : k + 5 ≤ 2560) (v1 : Int32) (v2 : Int32) (v3 : Int32) (v4 : Int32) : wpX_range (fun r => wpY_range (fun r' v' => r' = r ∧ i_Rel (k + 5) u v') v v1 v2 v3 v4) u v1 v2 v3 v4 := by
  obtain ⟨LC, LV, FA, BL, BG, AS⟩ := u
  obtain ⟨SZ, AK, NM, LW, HG⟩ := v
  unfold wpX_range wpY_range
  dsimp only
  rcases za_tree v1 with hb | ⟨t, ht, rfl⟩
  · exact zx_isLeaf_b hb (br_t rfl (zy_box_bad hb (br_t rfl ⟨rfl, I⟩)))
  · obtain ⟨s, c, l, e, d, lo, hi, w, H, hX, hY⟩ := I t ht
    dsimp only at hX hY
    have h8 := zt_lb_8 H
    rcases zt_disp H v2 with ⟨hn, hp⟩ | ⟨p, hp, hc, rfl⟩
    · exact zx_isLeaf_n ht hX.1 hn (br_t rfl (zy_box H hY ht (fun p LW HG hps hc z => absurd z (hp p hps hc)) (fun p LW HG hps hc z => absurd z (hp p hps hc)) (fun _ => br_t rfl ⟨rfl, I⟩)))
    · have hlt := zt_lb_lt hp hc
      have hno : ¬ ∀ p', p' < s → c p' = 4 → nI (zt_lb c p') ≠ nI (zt_lb c p) := fun z => z p hp hc rfl
      have hbx := (hX.2.1 p hp hc).2.2
      refine zx_isLeaf_t ht hX.1 hlt h8 (br_f (by decide) ?_)
      rcases za_tree v3 with hb | ⟨f, hf, rfl⟩
      · refine zx_isFeature_f hb (br_t rfl (zy_box H hY ht (fun p' LW HG hp' hc' z _ _ => br_f (by decide) ?_) (fun p' LW HG hp' hc' z y => br_t rfl ⟨rfl, I⟩) (fun z => absurd z hno)))
        by_cases h0 : v3 < 0
        · exact br_t h0 ⟨rfl, I⟩
        · exact br_f h0 (br_t (Int32.lt_of_lt_of_le (by decide) (hb.resolve_left h0)) ⟨rfl, I⟩)
      · refine zx_isFeature_t hf (br_f (by decide) ?_)
        have g0 : ¬ nI f < 0 := nI_pos (by omega)
        have g3 : ¬ (3 : Int32) < nI f := nI_nlt (a := 3) (by omega) (by omega)
        have inf : vp_in (nI f) 4 := vp_in_nI hf (by omega)
        have ef : (nI f).toNatClampNeg = f := nI_clamp (by omega)
        have e4 : nI (8 * t + zt_lb c p) * 4 + nI f = nI (4 * (8 * t + zt_lb c p) + f) := za_4 _ _
        have ex : (nI (4 * (8 * t + zt_lb c p) + f)).toNatClampNeg = 4 * (8 * t + zt_lb c p) + f := nI_clamp (by omega)
        have inx : vp_in (nI (4 * (8 * t + zt_lb c p) + f)) 128 := vp_in_nI (by omega) (by omega)
        by_cases w0 : v4 = 0
        · subst w0
          refine br_f (by decide) (br_t (by decide) (zx_slot (zx_hasPoint H hp (by omega) hbx (fun hne => br_f (by decide) (nm_r e4 (br_t rfl ⟨inx, ?_⟩))) (fun hne => br_t rfl ?_))))
          · refine zy_box H hY ht (fun p' LW HG hp' hc' z hbb _ => br_f (by decide) (br_f g0 (br_f g3 (br_t rfl (br_t rfl ⟨inf, ?_, I⟩))))) (fun p' LW HG hp' hc' z y => absurd hne (by rw [← zt_lbI H hp' hp hc' hc z]; exact y)) (fun z => absurd z hno)
            rw [ef, ex]
            dsimp only
            rw [(hbb f hf).1, (hbx f hf).1, zt_lbI H hp' hp hc' hc z]
          · exact zy_box H hY ht (fun p' LW HG hp' hc' z _ y => absurd y (by rw [zt_lbI H hp' hp hc' hc z]; exact hne)) (fun p' LW HG hp' hc' z y => br_t rfl ⟨rfl, I⟩) (fun z => absurd z hno)
        · by_cases w1 : v4 = 1
          · subst w1
            refine br_f (by decide) (br_t (by decide) (zx_slot (zx_hasPoint H hp (by omega) hbx (fun hne => br_f (by decide) (nm_r e4 (br_f (by decide) ⟨inx, ?_⟩))) (fun hne => br_t rfl ?_))))
            · refine zy_box H hY ht (fun p' LW HG hp' hc' z hbb _ => br_f (by decide) (br_f g0 (br_f g3 (br_f (by decide) (br_t rfl (br_f (by decide) ⟨inf, ?_, I⟩)))))) (fun p' LW HG hp' hc' z y => absurd hne (by rw [← zt_lbI H hp' hp hc' hc z]; exact y)) (fun z => absurd z hno)
              rw [ef, ex]
              dsimp only
              rw [(hbb f hf).2, (hbx f hf).2, zt_lbI H hp' hp hc' hc z]
            · exact zy_box H hY ht (fun p' LW HG hp' hc' z _ y => absurd y (by rw [zt_lbI H hp' hp hc' hc z]; exact hne)) (fun p' LW HG hp' hc' z y => br_t rfl ⟨rfl, I⟩) (fun z => absurd z hno)
          · have hY2 : wpY_range (fun r' v' => r' = -1 ∧ i_Rel (k + 5) (LC, LV, FA, BL, BG, AS) v') (SZ, AK, NM, LW, HG) (nI t) (nI (zt_lb c p)) (nI f) v4 := by
              unfold wpY_range
              dsimp only
              exact zy_box H hY ht (fun p' LW HG hp' hc' z _ _ => br_f (by decide) (br_f g0 (br_f g3 (br_f w0 (br_f w1 ⟨rfl, I⟩))))) (fun p' LW HG hp' hc' z y => br_t rfl ⟨rfl, I⟩) (fun z => absurd z hno)
            unfold wpY_range at hY2
            dsimp only at hY2
            rcases za_w01 w0 w1 with z | z
            · exact br_t z hY2
            · by_cases z0 : v4 < 0
              · exact br_t z0 hY2
              · exact br_f z0 (br_f z hY2)

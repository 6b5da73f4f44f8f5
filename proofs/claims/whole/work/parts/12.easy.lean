/-! constructors, clear, leaves, value, setValue, asks -/
section
variable {t s : Nat} {c l e d : Nat → Nat} {lo hi : Nat → Nat → Nat} {w : Nat → Int32} {SZ AK NM LW HG LC LV FA BL BG AS : Nat → Int32}
def zx_i1 (t : Nat) (LC LV FA BL BG AS : Nat → Int32) : Prop := LC t = 1 ∧ LV (8 * t) = 0 ∧ FA (8 * t) = 0 ∧ ∀ f, f < 4 → BL (4 * (8 * t) + f) = 0 ∧ BG (4 * (8 * t) + f) = 15 ∧ AS (4 * t + f) = 0
theorem zx_init_l {post : SX → Prop} (h : ∀ LC LV FA BL BG AS, (∀ t, t < 4 → zx_i1 t LC LV FA BL BG AS) → post (LC, LV, FA, BL, BG, AS)) :
    ∀ k q LC LV FA BL BG AS, q + k = 4 → (∀ t, t < q → zx_i1 t LC LV FA BL BG AS) → wX_init_55 post (k + 1) (nI q) LC LV FA BL BG AS := by
  intro k
  induction k with
  | zero =>
    intro q LC LV FA BL BG AS hq hI
    have hq' : q = 4 := by omega
    rw [hq'] at hI ⊢
    exact br_t (by decide) (h LC LV FA BL BG AS hI)
  | succ k ih =>
    intro q LC LV FA BL BG AS hq hI
    refine br_f (nI_ge (b := 4) (by omega) (by omega)) (zx_mk (by omega) (fun BL' BG' AS' g1 g2 g3 => nm_r (nI_1 q) (ih (q + 1) _ _ _ BL' BG' AS' (by omega) ?_)))
    intro t ht
    by_cases htq : t = q
    · subst htq
      exact ⟨pk_us, pk_us, pk_us, g1⟩
    · obtain ⟨a1, a2, a3, a4⟩ := hI t (by omega)
      refine ⟨by rw [pk_un htq]; exact a1, by rw [pk_un (by omega)]; exact a2, by rw [pk_un (by omega)]; exact a3, fun f hf => ?_⟩
      rw [(g2 _ (by omega)).1, (g2 _ (by omega)).2, g3 _ (by omega)]
      exact a4 f hf
theorem zy_init_l {post : SY → Prop} (h : ∀ SZ AK, (∀ t, t < 4 → SZ t = 1 ∧ AK (15 * t) = -1) → post (SZ, AK, NM, LW, HG)) :
    ∀ k q SZ AK, q + k = 4 → (∀ t, t < q → SZ t = 1 ∧ AK (15 * t) = -1) → wY_init_43 post (k + 1) (nI q) SZ AK NM LW HG := by
  intro k
  induction k with
  | zero =>
    intro q SZ AK hq hI
    have hq' : q = 4 := by omega
    rw [hq'] at hI ⊢
    exact br_t (by decide) (h SZ AK hI)
  | succ k ih =>
    intro q SZ AK hq hI
    have e15 : 15 * nI q = nI (15 * q) := pk_mul 15 q
    refine br_f (nI_ge (b := 4) (by omega) (by omega)) ⟨vp_in_nI (by omega) (by omega), fun a ea => ⟨by rw [e15]; exact vp_in_nI (by omega) (by omega), fun b eb => nm_r (nI_1 q) (ih (q + 1) a b (by omega) ?_)⟩⟩
    intro t ht
    rw [ea, eb, e15, nI_clamp (by omega), nI_clamp (by omega)]
    by_cases htq : t = q
    · rw [htq]; exact ⟨pk_us, pk_us⟩
    · rw [pk_un htq, pk_un (by omega)]; exact hI t (by omega)
theorem zr_T_1 (hx : zx_i1 t LC LV FA BL BG AS) (h1 : SZ t = 1) (h2 : AK (15 * t) = -1) (h3 : NM (15 * t) = 0) : zr_T t LC LV FA BL BG AS SZ AK NM :=
  ⟨1, _, _, _, _, _, _, _, zt_one1, zr_X_1 hx.1 hx.2.1 hx.2.2.1 hx.2.2.2, zr_Y_1 h1 h2 h3⟩
theorem zr_T_fr {LC' LV' FA' BL' BG' AS' SZ' AK' NM' : Nat → Int32} (h : zr_T t LC LV FA BL BG AS SZ AK NM) (h1 : LC' t = LC t) (h2 : ∀ j, j < 8 → LV' (8 * t + j) = LV (8 * t + j)) (h3 : ∀ j, j < 8 → FA' (8 * t + j) = FA (8 * t + j))
    (h4 : ∀ j f, j < 8 → f < 4 → BL' (4 * (8 * t + j) + f) = BL (4 * (8 * t + j) + f)) (h5 : ∀ j f, j < 8 → f < 4 → BG' (4 * (8 * t + j) + f) = BG (4 * (8 * t + j) + f)) (h6 : ∀ f, f < 4 → AS' (4 * t + f) = AS (4 * t + f))
    (h7 : SZ' t = SZ t) (h8 : ∀ p, p < 15 → AK' (15 * t + p) = AK (15 * t + p)) (h9 : ∀ p, p < 15 → NM' (15 * t + p) = NM (15 * t + p)) : zr_T t LC' LV' FA' BL' BG' AS' SZ' AK' NM' := by
  obtain ⟨s, c, l, e, d, lo, hi, w, H, hX, hY⟩ := h
  exact ⟨s, c, l, e, d, lo, hi, w, H, zr_X_fr H hX h1 h2 h3 h4 h5 h6, zr_Y_fr H hY h7 h8 h9⟩
theorem zt_lbI (H : zt_ok s c l e d lo hi) {p q : Nat} (hp : p < s) (hq : q < s) (hc : c p = 4) (hc' : c q = 4) (h : nI (zt_lb c p) = nI (zt_lb c q)) : p = q := by
  have a1 := zt_lb_lt hp hc
  have a2 := zt_lb_lt hq hc'
  have a3 := zt_lb_8 H
  rw [nI_eq (by omega) (by omega)] at h
  exact zt_lb_inj hc hc' h
theorem zt_disp (H : zt_ok s c l e d lo hi) (i : Int32) : ((i < 0 ∨ nI (zt_lb c s) ≤ i) ∧ ∀ p, p < s → c p = 4 → nI (zt_lb c p) ≠ i) ∨ ∃ p, p < s ∧ c p = 4 ∧ i = nI (zt_lb c p) := by
  have a3 := zt_lb_8 H
  rcases pk_ix i (n := zt_lb c s) (by omega) with h | h | ⟨j, hj, h⟩
  · refine Or.inl ⟨Or.inl h, fun p hp hc z => ?_⟩
    have := zt_lb_lt hp hc
    rw [← z] at h
    exact nI_pos (by omega) h
  · refine Or.inl ⟨Or.inr h, fun p hp hc z => ?_⟩
    have := zt_lb_lt hp hc
    rw [← z] at h
    exact nI_ge this (by omega) h
  · obtain ⟨p, h1, h2, h3⟩ := zt_lb_ex (c := c) s j hj
    exact Or.inr ⟨p, h1, h2, by rw [h3]; exact h⟩
theorem zy_leaves {post : Int32 → Prop} (ht : t < 4) (hS : SZ t = nI s) (hs : s ≤ 15) (h : post (nI ((s + 1) / 2))) : wpY_leaves post (SZ, AK, NM, LW, HG) (nI t) := by
  unfold wpY_leaves
  dsimp only
  refine zy_tree_t ht (br_f (by decide) ⟨vp_in_nI ht (by omega), by decide, ?_⟩)
  rw [nI_clamp (by omega), hS, nI_1, show (2 : Int32) = nI 2 from rfl, pk_div (by omega) (by omega) (by omega)]
  exact h
theorem zy_asks_l {f : Int32} {post : Int32 → Prop} (h : (f < 0 → post (-1)) ∧ (¬ f < 0 → ((f ≤ 3 → post (zn_y SZ AK f 60)) ∧ (¬ f ≤ 3 → post (-1))))) :
    ∀ k q, q + k = 60 → wY_asks_4 post f SZ AK NM LW HG (k + 1) (zn_y SZ AK f q) (nI q) := by
  intro k
  induction k with
  | zero =>
    intro q hq
    have hq' : q = 60 := by omega
    rw [hq']
    exact br_t (by decide) h
  | succ k ih =>
    intro q hq
    have hi := ih (q + 1) (by omega)
    have e1 : nI q / 15 = nI (q / 15) := pk_div (d := 15) (by omega) (by omega) (by omega)
    have e2 : nI q - nI q / 15 * 15 = nI (q % 15) := pk_rem (d := 15) (by omega) (by omega) (by omega)
    have e3 : (nI q / 15).toNatClampNeg = q / 15 := by rw [e1, nI_clamp (by omega)]
    have e4 : (nI q).toNatClampNeg = q := nI_clamp (by omega)
    have es : zn_y SZ AK f (q + 1) = if nI (q % 15) < SZ (q / 15) ∧ AK q = f then zn_y SZ AK f q + 1 else zn_y SZ AK f q := rfl
    rw [es] at hi
    refine br_f (nI_ge (b := 60) (by omega) (by omega)) ⟨by decide, by decide, by rw [e1]; exact vp_in_nI (by omega) (by omega), ?_⟩
    rw [e3, e2]
    refine br_c (fun z => nm_r (nI_1 q) ?_) (fun z => ⟨vp_in_nI (by omega) (by omega), ?_⟩)
    · rw [if_neg (fun y => absurd y.1 (Int32.not_lt.mpr z))] at hi
      exact hi
    · rw [e4]
      have z' : nI (q % 15) < SZ (q / 15) := Int32.not_le.mp z
      refine br_c (fun y => nm_e (nm_r (nI_1 q) ?_)) (fun y => nm_r (nI_1 q) ?_)
      · rw [if_pos ⟨z', y⟩] at hi
        exact hi
      · rw [if_neg (fun x => y x.2)] at hi
        exact hi
theorem zx_asks_l {f : Nat} (hf : f < 4) {post : Int32 → Prop} (h : post (za_sum (fun t => AS (4 * t + f)) 4)) :
    ∀ k q, q + k = 4 → wX_asks_13 post (nI f) LC LV FA BL BG AS (k + 1) (za_sum (fun t => AS (4 * t + f)) q) (nI q) := by
  intro k
  induction k with
  | zero =>
    intro q hq
    have hq' : q = 4 := by omega
    rw [hq']
    exact br_t (by decide) h
  | succ k ih =>
    intro q hq
    have e1 : (nI q * 4 + nI f).toNatClampNeg = 4 * q + f := by rw [za_4, nI_clamp (by omega)]
    refine br_f (nI_ge (b := 4) (by omega) (by omega)) ⟨by rw [za_4]; exact vp_in_nI (by omega) (by omega), ?_⟩
    rw [e1]
    exact nm_e (nm_r (nI_1 q) (ih (q + 1) (by omega)))
end
theorem i_vc0 : wpX_init (fun u => wpY_init (fun v => i_Rel 0 u v)) := by
  refine ⟨5, zx_init_l (fun LC LV FA BL BG AS hx => ⟨5, zy_init_l (fun SZ AK hy => fun t ht => ?_) 4 0 _ _ rfl (fun t ht => absurd ht (Nat.not_lt_zero _))⟩) 4 0 _ _ _ _ _ _ rfl (fun t ht => absurd ht (Nat.not_lt_zero _))⟩
  exact zr_T_1 (hx t ht) (hy t ht).1 (hy t ht).2 rfl
theorem i_vc_clear {k : Nat} {u : SX} {v : SY} (I : i_Rel k u v) (hk : k + 5 ≤ 2560) (v1 : Int32) : wpX_clear (fun r u' => wpY_clear (fun r' v' => r' = r ∧ i_Rel (k + 5) u' v') v v1) u v1 := by
  obtain ⟨LC, LV, FA, BL, BG, AS⟩ := u
  obtain ⟨SZ, AK, NM, LW, HG⟩ := v
  rcases za_tree v1 with hb | ⟨t, ht, rfl⟩
  · unfold wpX_clear
    dsimp only
    refine zx_isTree_f hb (br_t rfl ?_)
    unfold wpY_clear
    dsimp only
    exact zy_tree_f hb (br_t rfl ⟨rfl, I⟩)
  · unfold wpX_clear
    dsimp only
    refine zx_isTree_t ht (br_f (by decide) (zx_mk ht (fun BL' BG' AS' g1 g2 g3 => ?_)))
    dsimp only
    unfold wpY_clear
    dsimp only
    have e15 : 15 * nI t = nI (15 * t) := pk_mul 15 t
    have hin : vp_in (15 * nI t) 60 := by rw [e15]; exact vp_in_nI (by omega) (by omega)
    have ei : (15 * nI t).toNatClampNeg = 15 * t := by rw [e15, nI_clamp (by omega)]
    have et : (nI t).toNatClampNeg = t := nI_clamp (by omega)
    refine zy_tree_t ht (br_f (by decide) ⟨vp_in_nI ht (by omega), fun a ea => ⟨hin, fun b eb => ⟨hin, fun g eg => ⟨rfl, fun t' ht' => ?_⟩⟩⟩⟩)
    rw [et] at ea
    rw [ei] at eb eg
    subst ea eb eg
    by_cases htt : t' = t
    · subst htt
      exact zr_T_1 ⟨pk_us, pk_us, pk_us, g1⟩ pk_us pk_us pk_us
    · refine zr_T_fr (I t' ht') (pk_un htt) (fun j hj => pk_un (by omega)) (fun j hj => pk_un (by omega)) (fun j f hj hf => (g2 _ (by omega)).1) (fun j f hj hf => (g2 _ (by omega)).2) (fun f hf => g3 _ (by omega)) (pk_un htt) (fun p hp => pk_un (by omega)) (fun p hp => pk_un (by omega))
theorem i_vc_leaves {k : Nat} {u : SX} {v : SY} (I : i_Rel k u v) (hk : k + 5 ≤ 2560) (v1 : Int32) : wpX_leaves (fun r => wpY_leaves (fun r' => r' = r ∧ i_Rel (k + 5) u v) v v1) u v1 := by
  obtain ⟨LC, LV, FA, BL, BG, AS⟩ := u
  obtain ⟨SZ, AK, NM, LW, HG⟩ := v
  unfold wpX_leaves
  dsimp only
  rcases za_tree v1 with hb | ⟨t, ht, rfl⟩
  · refine zx_isTree_f hb (br_t rfl ?_)
    unfold wpY_leaves
    dsimp only
    exact zy_tree_f hb (br_t rfl ⟨rfl, I⟩)
  · obtain ⟨s, c, l, e, d, lo, hi, w, H, hX, hY⟩ := I t ht
    dsimp only at hX hY
    refine zx_isTree_t ht (br_f (by decide) ⟨vp_in_nI ht (by omega), zy_leaves ht hY.1 H.2.1 ⟨?_, I⟩⟩)
    have := zt_lb_s H
    rw [nI_clamp (by omega), hX.1, show (s + 1) / 2 = zt_lb c s from by omega]
theorem i_vc_value {k : Nat} {u : SX} {v : SY} (I : i_Rel k u v) (hk : k + 5 ≤ 2560) (v1 : Int32) (v2 : Int32) : wpX_value (fun r => wpY_value (fun r' => r' = r ∧ i_Rel (k + 5) u v) v v1 v2) u v1 v2 := by
  obtain ⟨LC, LV, FA, BL, BG, AS⟩ := u
  obtain ⟨SZ, AK, NM, LW, HG⟩ := v
  unfold wpX_value
  dsimp only
  rcases za_tree v1 with hb | ⟨t, ht, rfl⟩
  · exact zx_isLeaf_b hb (br_t rfl (zy_value_bad hb ⟨rfl, I⟩))
  · obtain ⟨s, c, l, e, d, lo, hi, w, H, hX, hY⟩ := I t ht
    dsimp only at hX hY
    have h8 := zt_lb_8 H
    rcases zt_disp H v2 with ⟨hn, hp⟩ | ⟨p, hp, hc, rfl⟩
    · exact zx_isLeaf_n ht hX.1 hn (br_t rfl (zy_value H hY ht (fun p hps hc z => absurd z (hp p hps hc)) (fun _ => ⟨rfl, I⟩)))
    · have hlt := zt_lb_lt hp hc
      refine zx_isLeaf_t ht hX.1 hlt h8 (br_f (by decide) (zx_slot ⟨vp_in_nI (by omega) (by omega), zy_value H hY ht (fun p' hp' hc' z => ⟨?_, I⟩) (fun z => absurd rfl (z p hp hc))⟩))
      rw [zt_lbI H hp' hp hc' hc z, nI_clamp (by omega), (hX.2.1 p hp hc).1]
theorem i_vc_setValue {k : Nat} {u : SX} {v : SY} (I : i_Rel k u v) (hk : k + 5 ≤ 2560) (v1 : Int32) (v2 : Int32) (v3 : Int32) : wpX_setValue (fun r u' => wpY_setValue (fun r' v' => r' = r ∧ i_Rel (k + 5) u' v') v v1 v2 v3) u v1 v2 v3 := by
  obtain ⟨LC, LV, FA, BL, BG, AS⟩ := u
  obtain ⟨SZ, AK, NM, LW, HG⟩ := v
  unfold wpX_setValue
  dsimp only
  rcases za_tree v1 with hb | ⟨t, ht, rfl⟩
  · refine zx_isLeaf_b hb (br_t rfl ?_)
    unfold wpY_setValue
    dsimp only
    exact zy_find_bad hb (br_f (by decide) ⟨rfl, I⟩)
  · obtain ⟨s, c, l, e, d, lo, hi, w, H, hX, hY⟩ := I t ht
    dsimp only at hX hY
    have h8 := zt_lb_8 H
    have h15 := H.2.1
    rcases zt_disp H v2 with ⟨hn, hp⟩ | ⟨p, hp, hc, rfl⟩
    · refine zx_isLeaf_n ht hX.1 hn (br_t rfl ?_)
      unfold wpY_setValue
      dsimp only
      exact zy_find H hY ht (fun p hps hc z => absurd z (hp p hps hc)) (fun _ => br_f (by decide) ⟨rfl, I⟩)
    · have hlt := zt_lb_lt hp hc
      refine zx_isLeaf_t ht hX.1 hlt h8 (br_f (by decide) (zx_slot ⟨vp_in_nI (by omega) (by omega), fun a ea => ?_⟩))
      rw [nI_clamp (by omega)] at ea
      subst ea
      unfold wpY_setValue
      dsimp only
      refine zy_find H hY ht (fun p' hp' hc' z => ?_) (fun z => absurd rfl (z p hp hc))
      have hpp := zt_lbI H hp' hp hc' hc z
      subst hpp
      refine br_t (nI_pos' (by omega)) ⟨zy_in ht (by omega), fun b eb => ⟨rfl, fun t' ht' => ?_⟩⟩
      rw [zy_ix ht (by omega)] at eb
      subst eb
      by_cases htt : t' = t
      · subst htt
        refine ⟨s, c, l, e, d, lo, hi, fun q => if q = p' then v3 else w q, H, ⟨hX.1, fun q hq hcq => ⟨?_, (hX.2.1 q hq hcq).2⟩, hX.2.2⟩, ⟨hY.1, fun q hq => ⟨fun hcq => ⟨((hY.2 q hq).1 hcq).1, ?_⟩, fun hcq => ⟨((hY.2 q hq).2 hcq).1, ?_⟩⟩⟩⟩
        · dsimp only
          by_cases hqp : q = p'
          · rw [if_pos hqp, hqp, pk_us]
          · rw [if_neg hqp, pk_un (fun z => hqp (zt_lb_inj hcq hc' (by omega)))]
            exact (hX.2.1 q hq hcq).1
        · dsimp only
          by_cases hqp : q = p'
          · rw [if_pos hqp, hqp, pk_us]
          · rw [if_neg hqp, pk_un (by omega)]
            exact ((hY.2 q hq).1 hcq).2
        · have hqp : q ≠ p' := fun z => hcq (z ▸ hc')
          dsimp only
          rw [pk_un (by omega)]
          exact ((hY.2 q hq).2 hcq).2
      · exact zr_T_fr (I t' ht') rfl (fun j hj => pk_un (by omega)) (fun j hj => rfl) (fun j f hj hf => rfl) (fun j f hj hf => rfl) (fun f hf => rfl) rfl (fun p hp => rfl) (fun p hp => pk_un (by omega))
theorem i_vc_asks {k : Nat} {u : SX} {v : SY} (I : i_Rel k u v) (hk : k + 5 ≤ 2560) (v1 : Int32) : wpX_asks (fun r => wpY_asks (fun r' => r' = r ∧ i_Rel (k + 5) u v) v v1) u v1 := by
  obtain ⟨LC, LV, FA, BL, BG, AS⟩ := u
  obtain ⟨SZ, AK, NM, LW, HG⟩ := v
  unfold wpX_asks
  dsimp only
  rcases za_tree v1 with hb | ⟨f, hf, rfl⟩
  · refine zx_isFeature_f hb (br_t rfl ⟨61, zy_asks_l ?_ 60 0 rfl⟩)
    by_cases h0 : v1 < 0
    · exact br_t h0 ⟨rfl, I⟩
    · exact br_f h0 (br_f (fun z => absurd (Int32.le_trans (hb.resolve_left h0) z) (by decide)) ⟨rfl, I⟩)
  · refine zx_isFeature_t hf (br_f (by decide) ⟨5, zx_asks_l hf ⟨61, zy_asks_l (br_f (nI_pos (by omega)) (br_t (nI_le (b := 3) (by omega) (by omega)) ⟨?_, I⟩)) 60 0 rfl⟩ 4 0 rfl⟩)
    exact zn_60 hf I 4 (Nat.le_refl _)

theorem i_vc_split {k : Nat} {u : SX} {v : SY} (I : i_Rel k u v) (hk : k + 5 ≤ 2560) (v1 : Int32) (v2 : Int32) (v3 : Int32) (v4 : Int32) : wpX_split (fun r u' => wpY_split (fun r' v' => r' = r ∧ i_Rel (k + 5) u' v') v v1 v2 v3 v4) u v1 v2 v3 v4 := by
  obtain ⟨LC, LV, FA, BL, BG, AS⟩ := u
  obtain ⟨SZ, AK, NM, LW, HG⟩ := v
  rcases za_tree v1 with hb | ⟨t, ht, rfl⟩
  · unfold wpX_split wpY_split
    dsimp only
    exact zx_isLeaf_b hb (br_t rfl (zy_find_bad hb (br_t (by decide) ⟨rfl, I⟩)))
  · obtain ⟨s, c, l, e, d, lo, hi, w, H, hX, hY⟩ := I t ht
    dsimp only at hX hY
    have h8 := zt_lb_8 H
    have h15 := H.2.1
    have hls := zt_lb_s H
    rcases zt_disp H v2 with ⟨hn, hp⟩ | ⟨p, hp, hc, rfl⟩
    · unfold wpX_split wpY_split
      dsimp only
      exact zx_isLeaf_n ht hX.1 hn (br_t rfl (zy_find H hY ht (fun p hps hc z => absurd z (hp p hps hc)) (fun _ => br_t (by decide) ⟨rfl, I⟩)))
    · have hlt := zt_lb_lt hp hc
      have hno : ¬ ∀ p', p' < s → c p' = 4 → nI (zt_lb c p') ≠ nI (zt_lb c p) := fun z => z p hp hc rfl
      rcases za_tree v3 with hb | ⟨F, hF, rfl⟩
      · unfold wpX_split wpY_split
        dsimp only
        refine zx_isLeaf_t ht hX.1 hlt h8 (br_f (by decide) (zx_isFeature_f hb (br_t rfl (zy_find H hY ht (fun p' hp' hc' z => br_f (nI_pos (by omega)) ?_) (fun z => absurd z hno)))))
        by_cases h0 : v3 < 0
        · exact br_t h0 ⟨rfl, I⟩
        · exact br_f h0 (br_t (Int32.lt_of_lt_of_le (by decide) (hb.resolve_left h0)) ⟨rfl, I⟩)
      · have g0 : ¬ nI F < 0 := nI_pos (by omega)
        have g3 : ¬ (3 : Int32) < nI F := nI_nlt (a := 3) (by omega) (by omega)
        have it : vp_in (nI t) 4 := vp_in_nI ht (by omega)
        have et : (nI t).toNatClampNeg = t := nI_clamp (by omega)
        rcases pk_ix v4 (n := 16) (by omega) with hb | hb | ⟨L, hL, rfl⟩
        · unfold wpX_split wpY_split
          dsimp only
          exact zx_isLeaf_t ht hX.1 hlt h8 (br_f (by decide) (zx_isFeature_t hF (br_f (by decide) (br_t hb (zy_find H hY ht (fun p' hp' hc' z => br_f (nI_pos (by omega)) (br_f g0 (br_f g3 (br_t hb ⟨rfl, I⟩)))) (fun z => absurd z hno))))))
        · have hb0 : ¬ v4 < 0 := fun z => absurd (Int32.lt_of_le_of_lt hb z) (by decide)
          have hb5 : ¬ v4 ≤ 15 := fun z => absurd (Int32.le_trans hb z) (by decide)
          unfold wpX_split wpY_split
          dsimp only
          exact zx_isLeaf_t ht hX.1 hlt h8 (br_f (by decide) (zx_isFeature_t hF (br_f (by decide) (br_f hb0 (br_f hb5 (zy_find H hY ht (fun p' hp' hc' z => br_f (nI_pos (by omega)) (br_f g0 (br_f g3 (br_f hb0 (br_f hb5 ⟨rfl, I⟩))))) (fun z => absurd z hno)))))))
        · have l0 : ¬ nI L < 0 := nI_pos (by omega)
          have l15 : nI L ≤ 15 := nI_le (b := 15) (by omega) (by omega)
          by_cases hs : s = 15
          · unfold wpX_split wpY_split
            dsimp only
            refine zx_isLeaf_t ht hX.1 hlt h8 (br_f (by decide) (zx_isFeature_t hF (br_f (by decide) (br_f l0 (br_t l15 ⟨it, br_t ?_ (zy_find H hY ht (fun p' hp' hc' z => br_f (nI_pos (by omega)) (br_f g0 (br_f g3 (br_f l0 (br_t l15 ⟨it, br_f ?_ ⟨rfl, I⟩⟩))))) (fun z => absurd z hno))⟩)))))
            · rw [et, hX.1, show zt_lb c s = 8 from by omega]; rfl
            · rw [et, hY.1, hs]; decide
          · refine zx_split H hX ht hp hc hF (by omega) (by omega) (fun LV' FA' BL' BG' y2 y3 y4 y5 => ?_)
            unfold wpY_split
            dsimp only
            refine zy_find H hY ht (fun p' hp' hc' z => ?_) (fun z => absurd z hno)
            have hpp := zt_lbI H hp' hp hc' hc z
            subst hpp
            refine br_f (nI_pos (by omega)) (br_f g0 (br_f g3 (br_f l0 (br_t l15 ⟨it, br_t ?_ ⟨it, nm_r (e' := nI (s - 1)) ?_ ⟨s - 1 - p' + 1, ?_⟩⟩⟩))))
            · rw [et, hY.1]; exact nI_lt (b := 15) (by omega) (by omega)
            · rw [et, hY.1, show (1 : Int32) = nI 1 from rfl, pk_sub (by omega)]
            · rw [show s - 1 = p' + (s - 1 - p') from by omega, show p' + (s - 1 - p') - p' = s - 1 - p' from by omega]
              refine zy_sp_l (AK := AK) (NM := NM) ht hY.1 hp (by omega) (fun AK' NM' z1 z2 => ⟨congrArg nI (by omega), fun t' ht' => ?_⟩) _ AK NM (by omega) (zy_sh_0 (by omega) _) (zy_sh_0 (by omega) _)
              have q1 := zy_cAK (y := nI F) z1
              have q2 := zy_cNM (y := nI L) z2
              by_cases htt : t' = t
              · subst htt
                refine ⟨s + 2, _, _, _, _, _, _, _, zt_split H hp hc (by omega) hF (by omega), zr_X_sp H hX hp hc hF (by omega) pk_us y2 y3 y4 y5 (fun f hf => ?_), zr_Y_sp hY hp hc hF pk_us q1 q2⟩
                dsimp only
                by_cases hfF : F = f
                · rw [hfF, pk_us, if_pos rfl]
                · rw [pk_un (by omega), if_neg hfF]
              · refine zr_T_fr (I t' ht') (pk_un htt) (fun j hj => ?_) (fun j hj => ?_) (fun j f hj hf => ?_) (fun j f hj hf => ?_) (fun f hf => pk_un (by omega)) (pk_un htt) (fun q hq => ?_) (fun q hq => ?_)
                · dsimp only
                  rw [y2, if_neg (by omega), if_neg (by omega)]
                · dsimp only
                  rw [y3, if_neg (by omega), if_neg (by omega)]
                · dsimp only
                  rw [y4 _ f hf, if_neg (by omega), if_neg (by omega)]
                · dsimp only
                  rw [y5 _ f hf, if_neg (by omega), if_neg (by omega)]
                · dsimp only
                  rw [q1, if_neg (by omega), if_neg (by omega), if_neg (by omega)]
                · dsimp only
                  rw [q2, if_neg (by omega), if_neg (by omega), if_neg (by omega), if_neg (by omega)]

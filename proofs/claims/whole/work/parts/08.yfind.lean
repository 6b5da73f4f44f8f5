/-! Y's find, behind, walk -/
section
variable {t s : Nat} {c l e d : Nat → Nat} {lo hi : Nat → Nat → Nat} {w : Nat → Int32} {SZ AK NM LW HG : Nat → Int32}
theorem za_15 (t p : Nat) : 15 * nI t + nI p = nI (15 * t + p) := by
  rw [show (15 : Int32) = nI 15 from rfl, pk_mul, nI_add]
theorem za_4 (a f : Nat) : nI a * 4 + nI f = nI (4 * a + f) := by
  rw [show (4 : Int32) = nI 4 from rfl, pk_mul, nI_add, Nat.mul_comm]
theorem za_8 (a f : Nat) : nI a * 8 + nI f = nI (8 * a + f) := by
  rw [show (8 : Int32) = nI 8 from rfl, pk_mul, nI_add, Nat.mul_comm]
theorem zy_ix {p : Nat} (ht : t < 4) (hp : p < 15) : (15 * nI t + nI p).toNatClampNeg = 15 * t + p := by
  rw [za_15, nI_clamp (by omega)]
theorem zy_in {p : Nat} (ht : t < 4) (hp : p < 15) : vp_in (15 * nI t + nI p) 60 := by
  rw [za_15]; exact vp_in_nI (by omega) (by omega)
theorem zy_akL (H : zt_ok s c l e d lo hi) (hY : zr_Y t s c l w SZ AK NM) (ht : t < 4) {p : Nat} (hp : p < s) (hc : c p = 4) : AK (15 * nI t + nI p).toNatClampNeg = -1 := by
  have hs := H.2.1
  rw [zy_ix ht (by omega)]; exact ((hY.2 p hp).1 hc).1
theorem zy_akF (H : zt_ok s c l e d lo hi) (hY : zr_Y t s c l w SZ AK NM) (ht : t < 4) {p : Nat} (hp : p < s) (hc : c p ≠ 4) : AK (15 * nI t + nI p).toNatClampNeg = nI (c p) := by
  have hs := H.2.1
  rw [zy_ix ht (by omega)]; exact ((hY.2 p hp).2 hc).1
theorem zy_nmF (H : zt_ok s c l e d lo hi) (hY : zr_Y t s c l w SZ AK NM) (ht : t < 4) {p : Nat} (hp : p < s) (hc : c p ≠ 4) : NM (15 * nI t + nI p).toNatClampNeg = nI (l p) := by
  have hs := H.2.1
  rw [zy_ix ht (by omega)]; exact ((hY.2 p hp).2 hc).2
theorem zy_nmL (H : zt_ok s c l e d lo hi) (hY : zr_Y t s c l w SZ AK NM) (ht : t < 4) {p : Nat} (hp : p < s) (hc : c p = 4) : NM (15 * nI t + nI p).toNatClampNeg = w p := by
  have hs := H.2.1
  rw [zy_ix ht (by omega)]; exact ((hY.2 p hp).1 hc).2
theorem zy_geL (H : zt_ok s c l e d lo hi) (hY : zr_Y t s c l w SZ AK NM) (ht : t < 4) {p : Nat} (hp : p < s) (hc : c p = 4) : ¬ 0 ≤ AK (15 * nI t + nI p).toNatClampNeg := by
  rw [zy_akL H hY ht hp hc]; decide
theorem zy_geF (H : zt_ok s c l e d lo hi) (hY : zr_Y t s c l w SZ AK NM) (ht : t < 4) {p : Nat} (hp : p < s) (hc : c p ≠ 4) : 0 ≤ AK (15 * nI t + nI p).toNatClampNeg := by
  have := zt_c4 H hp hc
  rw [zy_akF H hY ht hp hc]; exact nI_pos' (by omega)
theorem zy_find_l (H : zt_ok s c l e d lo hi) (hY : zr_Y t s c l w SZ AK NM) (ht : t < 4) {i : Int32} {post : Int32 → Prop} (h1 : ∀ p, p < s → c p = 4 → nI (zt_lb c p) = i → post (nI p)) (h2 : (∀ p, p < s → c p = 4 → nI (zt_lb c p) ≠ i) → post (-1)) :
    ∀ k q, q + k = s → (∀ p, p < q → c p = 4 → nI (zt_lb c p) ≠ i) → wY_find_5 post (nI t) i SZ AK NM LW HG (k + 1) (nI (zt_lb c q)) (nI q) := by
  have hs := H.2.1
  have et : SZ (nI t).toNatClampNeg = nI s := by rw [nI_clamp (by omega)]; exact hY.1
  intro k
  induction k with
  | zero =>
    intro q hq hn
    have hq' : q = s := by omega
    rw [hq'] at hn ⊢
    refine br_f (nI_pos (by omega)) (br_f (nI_nlt (a := 3) (by omega) (by omega)) (br_f (by decide) ⟨vp_in_nI ht (by omega), br_t ?_ (h2 hn)⟩))
    rw [et]; exact nI_le (Nat.le_refl _) (by omega)
  | succ k ih =>
    intro q hq hn
    have hlt : q < s := by omega
    refine br_f (nI_pos (by omega)) (br_f (nI_nlt (a := 3) (by omega) (by omega)) (br_f (by decide) ⟨vp_in_nI ht (by omega), br_f ?_ ⟨zy_in ht (by omega), ?_⟩⟩))
    · rw [et]; exact nI_ge (by omega) (by omega)
    · by_cases hc : c q = 4
      · refine br_f (zy_geL H hY ht hlt hc) ?_
        by_cases hj : nI (zt_lb c q) = i
        · exact br_t hj (h1 q hlt hc hj)
        · refine br_f hj (nm_r (e' := nI (zt_lb c (q + 1))) (by rw [nI_1, zt_lb_leaf hc]) (nm_r (nI_1 q) (ih (q + 1) (by omega) ?_)))
          intro p hp hcp
          by_cases hpq : p = q
          · rw [hpq]; exact hj
          · exact hn p (by omega) hcp
      · refine br_t (zy_geF H hY ht hlt hc) (nm_r (nI_1 q) ?_)
        have := ih (q + 1) (by omega) (fun p hp hcp => by
          by_cases hpq : p = q
          · exact absurd (hpq ▸ hcp) hc
          · exact hn p (by omega) hcp)
        rw [zt_lb_fork hc] at this
        exact this
theorem zy_find (H : zt_ok s c l e d lo hi) (hY : zr_Y t s c l w SZ AK NM) (ht : t < 4) {i : Int32} {post : Int32 → Prop} (h1 : ∀ p, p < s → c p = 4 → nI (zt_lb c p) = i → post (nI p)) (h2 : (∀ p, p < s → c p = 4 → nI (zt_lb c p) ≠ i) → post (-1)) : wpY_find post (SZ, AK, NM, LW, HG) (nI t) i :=
  ⟨s + 1, zy_find_l H hY ht h1 h2 s 0 (Nat.zero_add _) (fun p hp => absurd hp (Nat.not_lt_zero _))⟩
theorem zy_find_bad {t i : Int32} {post : Int32 → Prop} (ht : t < 0 ∨ 4 ≤ t) (h : post (-1)) : wpY_find post (SZ, AK, NM, LW, HG) t i := by
  refine ⟨1, ?_⟩
  by_cases h0 : t < 0
  · exact br_t h0 (br_t rfl h)
  · have h4 : 4 ≤ t := ht.resolve_left h0
    have h3 : (3 : Int32) < t := Int32.lt_of_lt_of_le (by decide) h4
    exact br_f h0 (br_t h3 (br_t rfl h))
theorem zy_beh_l (H : zt_ok s c l e d lo hi) (hY : zr_Y t s c l w SZ AK NM) (ht : t < 4) {post : Int32 → Prop} :
    ∀ k q, q < s → e q - q ≤ k → ∀ o n, o + k < 1000 → wY_behind_5 post (nI t) SZ AK NM LW HG n (nI o) (nI (e q)) → wY_behind_5 post (nI t) SZ AK NM LW HG (n + (e q - q)) (nI (o + 1)) (nI q) := by
  have hs := H.2.1
  intro k
  induction k with
  | zero => intro q hq hn; have := (zt_node H hq).1; exfalso; omega
  | succ k ih =>
    intro q hq hn o n ho hW
    have hN := zt_node H hq
    have hes := hN.2.1
    by_cases hc : c q = 4
    · have he := zt_leaf H hq hc
      rw [he] at hW
      rw [show n + (e q - q) = n + 1 from by omega]
      exact br_f (nI_nle (by omega) (by omega)) (br_f (nI_ge (b := 15) (by omega) (by omega)) ⟨zy_in ht (by omega), br_f (zy_geL H hY ht hq hc) (nm_r (nI_pred o) (nm_r (nI_1 q) hW))⟩)
    · obtain ⟨f1, f2, f3, f4, f5, f6, f7, f8, f9, f10, f11⟩ := zt_fork H hq hc
      have hR := ih (e (q + 1)) (by omega) (by omega) o n (by omega) (by rw [f5]; exact hW)
      rw [f5] at hR
      have hL := ih (q + 1) (by omega) (by omega) (o + 1) (n + (e q - e (q + 1))) (by omega) hR
      rw [show n + (e q - q) = (n + (e q - e (q + 1)) + (e (q + 1) - (q + 1))) + 1 from by omega]
      exact br_f (nI_nle (by omega) (by omega)) (br_f (nI_ge (b := 15) (by omega) (by omega)) ⟨zy_in ht (by omega), br_t (zy_geF H hY ht hq hc) (nm_r (nI_1 (o + 1)) (nm_r (nI_1 q) hL))⟩)
theorem zy_behind (H : zt_ok s c l e d lo hi) (hY : zr_Y t s c l w SZ AK NM) (ht : t < 4) {post : Int32 → Prop} {p : Nat} (hp : p < s) (he : e p < 15) {x : Int32} (hx : x = nI p) (h : post (nI (e p))) : wpY_behind post (SZ, AK, NM, LW, HG) (nI t) x := by
  subst hx
  have hs := H.2.1
  have hN := zt_node H hp
  refine ⟨1 + (e p - p), zy_beh_l H hY ht _ p hp (Nat.le_refl _) 0 1 (by omega) (br_t (by decide) (br_f (nI_ge (b := 15) he (by omega)) h))⟩
theorem zy_wc (H : zt_ok s c l e d lo hi) (hY : zr_Y t s c l w SZ AK NM) (ht : t < 4) {post : Int32 → Prop} {p : Nat} (hp : p < s) {x4 : Int32} (h : post (nI (zt_lb c p) + 16 * x4)) :
    ∀ k q, q + k = p → wY_walk_101 post (nI t) (nI p) x4 SZ AK NM LW HG (k + 1) (nI (zt_lb c q)) (nI q) := by
  have hs := H.2.1
  intro k
  induction k with
  | zero =>
    intro q hq
    have hq' : q = p := by omega
    rw [hq']
    exact br_t (nI_le (Nat.le_refl _) (by omega)) h
  | succ k ih =>
    intro q hq
    have hlt : q < s := by omega
    refine br_f (nI_ge (by omega) (by omega)) ⟨zy_in ht (by omega), ?_⟩
    have hi := ih (q + 1) (by omega)
    by_cases hc : c q = 4
    · rw [zt_lb_leaf hc] at hi
      exact br_f (zy_geL H hY ht hlt hc) (nm_r (nI_1 _) (nm_r (nI_1 q) hi))
    · rw [zt_lb_fork hc] at hi
      exact br_t (zy_geF H hY ht hlt hc) (nm_r (nI_1 q) hi)
theorem zy_wl (H : zt_ok s c l e d lo hi) (hY : zr_Y t s c l w SZ AK NM) (ht : t < 4) {P p : Nat} (hP : P < 65536) (hp : p < s) (hc : c p = 4) (hx : zt_in lo hi (za_f P) p) {post : Int32 → Prop} (h : post (nI (zt_lb c p + 16 * d p))) :
    ∀ k q, q < s → e q - q ≤ k → q ≤ p → p < e q → wY_walk_5 post (nI t) (nI P) SZ AK NM LW HG k (nI q) (nI (d q)) := by
  have hs := H.2.1
  intro k
  induction k with
  | zero => intro q hq hn h1 h2; exfalso; omega
  | succ k ih =>
    intro q hq hn h1 h2
    have hN := zt_node H hq
    have hes := hN.2.1
    refine ⟨zy_in ht (by omega), ?_⟩
    by_cases hcq : c q = 4
    · have he := zt_leaf H hq hcq
      have hpq : q = p := by omega
      rw [hpq]
      refine br_t (by rw [zy_akL H hY ht hp hc]; decide) ⟨p + 1, ?_⟩
      exact zy_wc H hY ht hp (by rw [show (16 : Int32) = nI 16 from rfl, pk_mul, nI_add]; exact h) p 0 (Nat.zero_add _)
    · have hd := (zt_dep H hq).2 hcq
      have hc4 := zt_c4 H hq hcq
      obtain ⟨f1, f2, f3, f4, f5, f6, f7, f8, f9, f10, f11⟩ := zt_fork H hq hcq
      have ef : (nI P >>> ((4 * nI (c q)) &&& 31)) &&& 15 = nI (za_f P (c q)) := by
        rw [show (4 : Int32) * nI (c q) = nI (4 * c q) from pk_mul 4 (c q)]; exact za_feat hP hc4
      have hf15 := za_f15 P (c q)
      refine br_f (by rw [zy_akF H hY ht hq hcq]; exact nI_pos (by omega)) (br_f (nI_ge (b := 7) (by omega) (by omega)) ⟨zy_in ht (by omega), nm_r (zy_akF H hY ht hq hcq) ⟨zy_in ht (by omega), ?_⟩⟩)
      by_cases hr : p < e (q + 1)
      · have hw := zt_wayL H hq hcq (by
          rcases Nat.lt_or_eq_of_le h1 with a | a
          · exact a
          · exact absurd (a ▸ hc) hcq) hr hx
        refine br_f (by rw [zy_nmF H hY ht hq hcq, ef]; exact nI_nlt hw (by omega)) (br_f (by decide) (nm_r (nI_1 q) (nm_r (e' := nI (d (q + 1))) (by rw [nI_1, f6]) ?_)))
        exact ih (q + 1) (by omega) (by omega) (by
          rcases Nat.lt_or_eq_of_le h1 with a | a
          · exact a
          · exact absurd (a ▸ hc) hcq) hr
      · have hw := zt_wayR H hq hcq (by omega) h2 hx
        refine br_t (by rw [zy_nmF H hY ht hq hcq, ef]; exact nI_lt (by omega) (by omega)) (br_t rfl ?_)
        refine zy_behind H hY ht (p := q + 1) (by omega) (by omega) (nI_1 q) ?_
        refine nm_r (e' := nI (d (e (q + 1)))) (by rw [nI_1, f7]) ?_
        exact ih (e (q + 1)) (by omega) (by omega) (by omega) (by omega)
theorem zy_walk (H : zt_ok s c l e d lo hi) (hY : zr_Y t s c l w SZ AK NM) (ht : t < 4) {P p : Nat} (hP : P < 65536) (hp : p < s) (hc : c p = 4) (hx : zt_in lo hi (za_f P) p) {post : Int32 → Prop} (h : post (nI (zt_lb c p + 16 * d p))) : wpY_walk post (SZ, AK, NM, LW, HG) (nI t) (nI P) := by
  have k := zy_wl (LW := LW) (HG := HG) H hY ht hP hp hc hx h (e 0) 0 H.1 (Nat.sub_le _ _) (Nat.zero_le _) (by rw [H.2.2.1]; exact hp)
  rw [H.2.2.2.1] at k
  exact ⟨_, k⟩
end

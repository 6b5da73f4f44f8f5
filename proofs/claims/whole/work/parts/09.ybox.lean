/-! Y's box, value, tree, point -/
section
variable {t s : Nat} {c l e d : Nat → Nat} {lo hi : Nat → Nat → Nat} {w : Nat → Int32} {SZ AK NM LW HG : Nat → Int32}
def zt_ne (lo hi : Nat → Nat → Nat) (p : Nat) : Prop := lo p 0 ≤ hi p 0 ∧ lo p 1 ≤ hi p 1 ∧ lo p 2 ≤ hi p 2 ∧ lo p 3 ≤ hi p 3
def zy_bx (lo hi : Nat → Nat → Nat) (p : Nat) (LW HG : Nat → Int32) : Prop := ∀ f, f < 4 → LW f = nI (lo p f) ∧ HG f = nI (hi p f)
theorem zy_b194 (H : zt_ok s c l e d lo hi) {p : Nat} (hp : p < s) {post : Int32 → SY → Prop} (hb : zy_bx lo hi p LW HG) (h1 : zt_ne lo hi p → post 1 (SZ, AK, NM, LW, HG)) (h0 : ¬ zt_ne lo hi p → post 0 (SZ, AK, NM, LW, HG)) : wY_box_194 post SZ AK NM LW HG := by
  have hl := (zt_node H hp).2.2.2.1
  have hh := (zt_node H hp).2.2.2.2.1
  have K : ∀ f, f < 4 → (HG f < LW f ↔ hi p f < lo p f) := fun f hf => by
    have := hl f
    have := hh f
    rw [(hb f hf).1, (hb f hf).2, nI_ltI (by omega) (by omega)]
  have K0 := K 0 (by omega)
  have K1 := K 1 (by omega)
  have K2 := K 2 (by omega)
  have K3 := K 3 (by omega)
  refine br_c (fun z => h0 (fun y => ?_)) (fun z0 => br_c (fun z => h0 (fun y => ?_)) (fun z1 => br_c (fun z => h0 (fun y => ?_)) (fun z2 => br_c (fun z => h0 (fun y => ?_)) (fun z3 => h1 ?_))))
  · have := K0.mp z; have := y.1; omega
  · have := K1.mp z; have := y.2.1; omega
  · have := K2.mp z; have := y.2.2.1; omega
  · have := K3.mp z; have := y.2.2.2; omega
  · exact ⟨Nat.not_lt.mp (fun x => z0 (K0.mpr x)), Nat.not_lt.mp (fun x => z1 (K1.mpr x)), Nat.not_lt.mp (fun x => z2 (K2.mpr x)), Nat.not_lt.mp (fun x => z3 (K3.mpr x))⟩
theorem zy_bl (H : zt_ok s c l e d lo hi) (hY : zr_Y t s c l w SZ AK NM) (ht : t < 4) {p : Nat} (hp : p < s) (hc : c p = 4) {post : Int32 → SY → Prop}
    (h : ∀ LW HG, zy_bx lo hi p LW HG → wY_box_194 post SZ AK NM LW HG) :
    ∀ k q LW HG, q < s → e q - q ≤ k → q ≤ p → p < e q → zy_bx lo hi q LW HG → wY_box_51 post (nI t) (nI p) k (nI q) (nI (d q)) SZ AK NM LW HG := by
  have hs := H.2.1
  intro k
  induction k with
  | zero => intro q LW HG hq hn h1 h2; exfalso; omega
  | succ k ih =>
    intro q LW HG hq hn h1 h2 hb
    have hN := zt_node H hq
    have hes := hN.2.1
    by_cases hpq : q = p
    · subst hpq
      exact br_c (fun _ => h LW HG hb) (fun _ => br_t (nI_le (Nat.le_refl _) (by omega)) (h LW HG hb))
    · have hcq : c q ≠ 4 := fun z => by
        have := zt_leaf H hq z
        omega
      have hd := (zt_dep H hq).2 hcq
      have hc4 := zt_c4 H hq hcq
      obtain ⟨f1, f2, f3, f4, f5, f6, f7, f8, f9, f10, f11⟩ := zt_fork H hq hcq
      have hlo := hN.2.2.2.1 (c q)
      have hhi := hN.2.2.2.2.1 (c q)
      have ecl : (nI (c q)).toNatClampNeg = c q := nI_clamp (by omega)
      have hin : vp_in (nI (c q)) 4 := vp_in_nI hc4 (by omega)
      refine br_f (nI_ge (b := 7) (by omega) (by omega)) (br_f (nI_ge (by omega) (by omega)) ⟨zy_in ht (by omega), nm_r (zy_akF H hY ht hq hcq) ⟨zy_in ht (by omega), nm_r (zy_nmF H hY ht hq hcq) ?_⟩⟩)
      refine zy_behind H hY ht (p := q + 1) (by omega) (by omega) (nI_1 q) ?_
      by_cases hr : p < e (q + 1)
      · have ih' := fun HG' hb' => ih (q + 1) LW HG' (by omega) (by omega) (by omega) hr hb'
        refine br_f (nI_ge hr (by omega)) ⟨hin, br_c (fun z => ⟨hin, hin, ?_⟩) (fun z => ⟨hin, ?_⟩)⟩
        · intro a ea
          refine nm_r (nI_1 q) (nm_r (e' := nI (d (q + 1))) (by rw [nI_1, f6]) (ih' a ?_))
          intro f hf
          rw [ecl, (hb _ hc4).2, nI_leI (by omega) (by omega)] at z
          refine ⟨by rw [f8]; exact (hb f hf).1, ?_⟩
          rw [ea, ecl, f9]
          by_cases hfc : f = c q
          · rw [hfc, pk_us, if_neg (by omega)]; exact (hb _ hc4).2
          · rw [pk_un hfc, if_neg (fun y => hfc y.1)]; exact (hb f hf).2
        · intro a ea
          refine nm_r (nI_1 q) (nm_r (e' := nI (d (q + 1))) (by rw [nI_1, f6]) (ih' a ?_))
          intro f hf
          rw [ecl, (hb _ hc4).2, nI_leI (by omega) (by omega)] at z
          refine ⟨by rw [f8]; exact (hb f hf).1, ?_⟩
          rw [ea, ecl, f9]
          by_cases hfc : f = c q
          · rw [hfc, pk_us, if_pos ⟨rfl, by omega⟩]
          · rw [pk_un hfc, if_neg (fun y => hfc y.1)]; exact (hb f hf).2
      · have ih' := fun LW' hb' => ih (e (q + 1)) LW' HG (by omega) (by omega) (by omega) (by omega) hb'
        refine br_t (nI_le (by omega) (by omega)) ⟨hin, br_c (fun z => ⟨hin, hin, ?_⟩) (fun z => ⟨hin, ?_⟩)⟩
        · intro a ea
          refine nm_r (e' := nI (d (e (q + 1)))) (by rw [nI_1, f7]) (ih' a ?_)
          intro f hf
          rw [ecl, (hb _ hc4).1, nI_1, nI_leI (by omega) (by omega)] at z
          refine ⟨?_, by rw [f11]; exact (hb f hf).2⟩
          rw [ea, ecl, f10]
          by_cases hfc : f = c q
          · rw [hfc, pk_us, if_neg (by omega)]; exact (hb _ hc4).1
          · rw [pk_un hfc, if_neg (fun y => hfc y.1)]; exact (hb f hf).1
        · intro a ea
          refine nm_r (e' := nI (d (e (q + 1)))) (by rw [nI_1, f7]) (ih' a ?_)
          intro f hf
          rw [ecl, (hb _ hc4).1, nI_1, nI_leI (by omega) (by omega)] at z
          refine ⟨?_, by rw [f11]; exact (hb f hf).2⟩
          rw [ea, ecl, f10, nI_1]
          by_cases hfc : f = c q
          · rw [hfc, pk_us, if_pos ⟨rfl, by omega⟩]
          · rw [pk_un hfc, if_neg (fun y => hfc y.1)]; exact (hb f hf).1
theorem zy_b16 {x1 x3 : Int32} {post : Int32 → SY → Prop} (h : ∀ LW HG, (∀ j, j < 4 → LW j = 0 ∧ HG j = 15) → ∃ n, wY_box_51 post x1 x3 n 0 0 SZ AK NM LW HG) :
    ∀ k q LW HG, q + k = 4 → (∀ j, j < q → LW j = 0 ∧ HG j = 15) → wY_box_16 post x1 x3 (k + 1) (nI q) SZ AK NM LW HG := by
  intro k
  induction k with
  | zero =>
    intro q LW HG hq hb
    have hq' : q = 4 := by omega
    rw [hq'] at hb ⊢
    exact br_t (by decide) (h LW HG hb)
  | succ k ih =>
    intro q LW HG hq hb
    have hin : vp_in (nI q) 4 := vp_in_nI (by omega) (by omega)
    have ecl : (nI q).toNatClampNeg = q := nI_clamp (by omega)
    refine br_f (nI_ge (b := 4) (by omega) (by omega)) ⟨hin, fun a ea => ⟨hin, fun b eb => nm_r (nI_1 q) (ih (q + 1) a b (by omega) ?_)⟩⟩
    intro j hj
    rw [ea, eb, ecl]
    by_cases hjq : j = q
    · rw [hjq, pk_us, pk_us]; exact ⟨rfl, rfl⟩
    · rw [pk_un hjq, pk_un hjq]; exact hb j (by omega)
theorem zy_box (H : zt_ok s c l e d lo hi) (hY : zr_Y t s c l w SZ AK NM) (ht : t < 4) {i : Int32} {post : Int32 → SY → Prop}
    (h1 : ∀ p LW HG, p < s → c p = 4 → nI (zt_lb c p) = i → zy_bx lo hi p LW HG → zt_ne lo hi p → post 1 (SZ, AK, NM, LW, HG))
    (h0 : ∀ p LW HG, p < s → c p = 4 → nI (zt_lb c p) = i → ¬ zt_ne lo hi p → post 0 (SZ, AK, NM, LW, HG))
    (hn : (∀ p, p < s → c p = 4 → nI (zt_lb c p) ≠ i) → post 0 (SZ, AK, NM, LW, HG)) : wpY_box post (SZ, AK, NM, LW, HG) (nI t) i := by
  have hs := H.2.1
  unfold wpY_box
  dsimp only
  refine zy_find H hY ht (fun p hp hc hi' => ?_) (fun z => ?_)
  · refine br_t (nI_pos' (by omega)) ⟨5, ?_⟩
    refine zy_b16 (fun LW HG hb => ?_) 4 0 LW HG rfl (fun j hj => absurd hj (Nat.not_lt_zero _))
    have k := zy_bl (post := post) H hY ht hp hc (fun LW HG hb => zy_b194 H hp hb (h1 p LW HG hp hc hi' hb) (h0 p LW HG hp hc hi')) (e 0) 0 LW HG H.1 (Nat.sub_le _ _) (Nat.zero_le _) (by rw [H.2.2.1]; exact hp)
      (fun f hf => ⟨by rw [H.2.2.2.2.1 f]; exact (hb f hf).1, by rw [H.2.2.2.2.2.1 f]; exact (hb f hf).2⟩)
    rw [H.2.2.2.1] at k
    exact ⟨_, k⟩
  · exact br_f (by decide) (hn z)
theorem zy_box_bad {t i : Int32} {post : Int32 → SY → Prop} (ht : t < 0 ∨ 4 ≤ t) (h : post 0 (SZ, AK, NM, LW, HG)) : wpY_box post (SZ, AK, NM, LW, HG) t i := by
  unfold wpY_box
  dsimp only
  exact zy_find_bad ht (br_f (by decide) h)
theorem zy_value (H : zt_ok s c l e d lo hi) (hY : zr_Y t s c l w SZ AK NM) (ht : t < 4) {i : Int32} {post : Int32 → Prop}
    (h1 : ∀ p, p < s → c p = 4 → nI (zt_lb c p) = i → post (w p)) (hn : (∀ p, p < s → c p = 4 → nI (zt_lb c p) ≠ i) → post 0) : wpY_value post (SZ, AK, NM, LW, HG) (nI t) i := by
  have hs := H.2.1
  unfold wpY_value
  dsimp only
  refine zy_find H hY ht (fun p hp hc hi' => ?_) (fun z => ?_)
  · refine br_t (nI_pos' (by omega)) ⟨zy_in ht (by omega), ?_⟩
    rw [zy_nmL H hY ht hp hc]
    exact h1 p hp hc hi'
  · exact br_f (by decide) (hn z)
theorem zy_value_bad {t i : Int32} {post : Int32 → Prop} (ht : t < 0 ∨ 4 ≤ t) (h : post 0) : wpY_value post (SZ, AK, NM, LW, HG) t i := by
  unfold wpY_value
  dsimp only
  exact zy_find_bad ht (br_f (by decide) h)
theorem zy_tree_t {post : Int32 → Prop} (ht : t < 4) (h : post 1) : wpY_tree post (SZ, AK, NM, LW, HG) (nI t) :=
  br_f (nI_pos (by omega)) (br_f (nI_nlt (a := 3) (by omega) (by omega)) h)
theorem zy_tree_f {t : Int32} {post : Int32 → Prop} (ht : t < 0 ∨ 4 ≤ t) (h : post 0) : wpY_tree post (SZ, AK, NM, LW, HG) t := by
  by_cases h0 : t < 0
  · exact br_t h0 h
  · exact br_f h0 (br_t (Int32.lt_of_lt_of_le (by decide) (ht.resolve_left h0)) h)
theorem zy_point_t {P : Nat} {post : Int32 → Prop} (hP : P < 65536) (h : post 1) : wpY_point post (SZ, AK, NM, LW, HG) (nI P) :=
  br_f (nI_pos (by omega)) (br_f (nI_nlt (a := 65535) (by omega) (by omega)) h)
theorem za_point (x : Int32) : (x < 0 ∨ 65535 < x) ∨ ∃ j : Nat, j < 65536 ∧ x = nI j := by
  rcases pk_ix x (n := 65536) (by omega) with h | h | h
  · exact Or.inl (Or.inl h)
  · exact Or.inl (Or.inr (Int32.lt_of_lt_of_le (by decide) h))
  · exact Or.inr h
theorem zy_point_f {x : Int32} {post : Int32 → Prop} (hx : x < 0 ∨ 65535 < x) (h : post 0) : wpY_point post (SZ, AK, NM, LW, HG) x := by
  by_cases h0 : x < 0
  · exact br_t h0 h
  · exact br_f h0 (br_t (hx.resolve_left h0) h)
end

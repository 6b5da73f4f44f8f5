/-! X's small questions, hasPoint, holds, findLeaf -/
section
variable {t s : Nat} {c l e d : Nat → Nat} {lo hi : Nat → Nat → Nat} {w : Nat → Int32} {LC LV FA BL BG AS : Nat → Int32}
theorem zx_slot {post : Int32 → Prop} {i : Nat} (h : post (nI (8 * t + i))) : wpX_slot post (nI t) (nI i) := by
  have k : post (nI t * 8 + nI i) := by rw [za_8]; exact h
  exact k
theorem zx_isTree_t {post : Int32 → Prop} (ht : t < 4) (h : post 1) : wpX_isTree post (nI t) :=
  br_f (nI_pos (by omega)) (br_f (nI_ge (b := 4) ht (by omega)) h)
theorem zx_isTree_f {t : Int32} {post : Int32 → Prop} (ht : t < 0 ∨ 4 ≤ t) (h : post 0) : wpX_isTree post t := by
  by_cases h0 : t < 0
  · exact br_t h0 h
  · exact br_f h0 (br_t (ht.resolve_left h0) h)
theorem zx_isFeature_t {post : Int32 → Prop} (ht : t < 4) (h : post 1) : wpX_isFeature post (nI t) :=
  br_f (nI_pos (by omega)) (br_f (nI_ge (b := 4) ht (by omega)) h)
theorem zx_isFeature_f {t : Int32} {post : Int32 → Prop} (ht : t < 0 ∨ 4 ≤ t) (h : post 0) : wpX_isFeature post t := by
  by_cases h0 : t < 0
  · exact br_t h0 h
  · exact br_f h0 (br_t (ht.resolve_left h0) h)
theorem zx_isPoint_t {P : Nat} {post : Int32 → Prop} (hP : P < 65536) (h : post 1) : wpX_isPoint post (nI P) :=
  br_f (nI_pos (by omega)) (br_f (nI_nlt (a := 65535) (by omega) (by omega)) h)
theorem zx_isPoint_f {x : Int32} {post : Int32 → Prop} (hx : x < 0 ∨ 65535 < x) (h : post 0) : wpX_isPoint post x := by
  by_cases h0 : x < 0
  · exact br_t h0 h
  · exact br_f h0 (br_t (hx.resolve_left h0) h)
theorem zx_isLeaf_t {post : Int32 → Prop} {n i : Nat} (ht : t < 4) (hn : LC t = nI n) (hi : i < n) (h8 : n ≤ 8) (h : post 1) : wpX_isLeaf post (LC, LV, FA, BL, BG, AS) (nI t) (nI i) := by
  have et : LC (nI t).toNatClampNeg = nI n := by rw [nI_clamp (by omega)]; exact hn
  unfold wpX_isLeaf
  dsimp only
  refine zx_isTree_t ht (br_f (by decide) (br_f (nI_pos (by omega)) ⟨vp_in_nI ht (by omega), br_f ?_ h⟩))
  rw [et]; exact nI_ge hi (by omega)
theorem zx_isLeaf_n {post : Int32 → Prop} {n : Nat} {i : Int32} (ht : t < 4) (hn : LC t = nI n) (hi : i < 0 ∨ nI n ≤ i) (h : post 0) : wpX_isLeaf post (LC, LV, FA, BL, BG, AS) (nI t) i := by
  have et : LC (nI t).toNatClampNeg = nI n := by rw [nI_clamp (by omega)]; exact hn
  unfold wpX_isLeaf
  dsimp only
  refine zx_isTree_t ht (br_f (by decide) ?_)
  by_cases h0 : i < 0
  · exact br_t h0 h
  · refine br_f h0 ⟨vp_in_nI ht (by omega), br_t ?_ h⟩
    rw [et]; exact hi.resolve_left h0
theorem zx_isLeaf_b {post : Int32 → Prop} {t i : Int32} (ht : t < 0 ∨ 4 ≤ t) (h : post 0) : wpX_isLeaf post (LC, LV, FA, BL, BG, AS) t i := by
  unfold wpX_isLeaf
  dsimp only
  exact zx_isTree_f ht (br_t rfl h)
theorem za_q4 {q : Nat} (h : q < 4) : q = 0 ∨ q = 1 ∨ q = 2 ∨ q = 3 := by omega
theorem zx_hp_l (H : zt_ok s c l e d lo hi) {p a : Nat} (hp : p < s) (ha : a < 32) (hb : ∀ f, f < 4 → BL (4 * a + f) = nI (lo p f) ∧ BG (4 * a + f) = nI (hi p f)) {post : Int32 → Prop} (h1 : zt_ne lo hi p → post 1) (h0 : ¬ zt_ne lo hi p → post 0) :
    ∀ k q, q + k = 4 → (∀ j, j < q → lo p j ≤ hi p j) → wX_hasPoint_2 post (nI a) LC LV FA BL BG AS (k + 1) (nI q) := by
  intro k
  induction k with
  | zero =>
    intro q hq hj
    have hq' : q = 4 := by omega
    rw [hq'] at hj ⊢
    exact br_t (by decide) (h1 ⟨hj 0 (by omega), hj 1 (by omega), hj 2 (by omega), hj 3 (by omega)⟩)
  | succ k ih =>
    intro q hq hj
    have ecl : (nI (4 * a + q)).toNatClampNeg = 4 * a + q := nI_clamp (by omega)
    have hin : vp_in (nI (4 * a + q)) 128 := vp_in_nI (by omega) (by omega)
    have hl := (zt_node H hp).2.2.2.1 q
    have hh := (zt_node H hp).2.2.2.2.1 q
    have K : BL (nI (4 * a + q)).toNatClampNeg ≤ BG (nI (4 * a + q)).toNatClampNeg ↔ lo p q ≤ hi p q := by
      rw [ecl, (hb q (by omega)).1, (hb q (by omega)).2, nI_leI (by omega) (by omega)]
    refine br_f (nI_ge (b := 4) (by omega) (by omega)) (nm_r (za_4 a q) ⟨hin, hin, br_c (fun z => nm_r (nI_1 q) (ih (q + 1) (by omega) ?_)) (fun z => h0 (fun y => z (K.mpr ?_)))⟩)
    · intro j hj2
      by_cases hjq : j = q
      · rw [hjq]; exact K.mp z
      · exact hj j (by omega)
    · rcases za_q4 (q := q) (by omega) with z | z | z | z
      · rw [z]; exact y.1
      · rw [z]; exact y.2.1
      · rw [z]; exact y.2.2.1
      · rw [z]; exact y.2.2.2
theorem zx_hasPoint (H : zt_ok s c l e d lo hi) {p a : Nat} (hp : p < s) (ha : a < 32) (hb : ∀ f, f < 4 → BL (4 * a + f) = nI (lo p f) ∧ BG (4 * a + f) = nI (hi p f)) {post : Int32 → Prop} (h1 : zt_ne lo hi p → post 1) (h0 : ¬ zt_ne lo hi p → post 0) : wpX_hasPoint post (LC, LV, FA, BL, BG, AS) (nI a) :=
  ⟨5, zx_hp_l H hp ha hb h1 h0 4 0 rfl (fun j hj => absurd hj (Nat.not_lt_zero _))⟩
theorem zx_feat {P q : Nat} (hP : P < 65536) (hq : q < 4) {post : Int32 → Prop} (h : post (nI (za_f P q))) : wpX_featureOf post (nI P) (nI q) := by
  have k : post ((nI P >>> ((nI q * 4) &&& 31)) &&& 15) := by
    rw [show nI q * 4 = nI (4 * q) from (by rw [show (4 : Int32) = nI 4 from rfl, pk_mul, Nat.mul_comm]), za_feat hP hq]; exact h
  exact k
theorem zx_ho_l (H : zt_ok s c l e d lo hi) {p a P : Nat} (hP : P < 65536) (hp : p < s) (ha : a < 32) (hb : ∀ f, f < 4 → BL (4 * a + f) = nI (lo p f) ∧ BG (4 * a + f) = nI (hi p f)) {post : Int32 → Prop} (h1 : zt_in lo hi (za_f P) p → post 1) (h0 : ¬ zt_in lo hi (za_f P) p → post 0) :
    ∀ k q, q + k = 4 → (∀ j, j < q → lo p j ≤ za_f P j ∧ za_f P j ≤ hi p j) → wX_holds_2 post (nI a) (nI P) LC LV FA BL BG AS (k + 1) (nI q) := by
  intro k
  induction k with
  | zero =>
    intro q hq hj
    have hq' : q = 4 := by omega
    rw [hq'] at hj ⊢
    exact br_t (by decide) (h1 (fun f hf => hj f hf))
  | succ k ih =>
    intro q hq hj
    have hq4 : q < 4 := by omega
    have ecl : (nI (4 * a + q)).toNatClampNeg = 4 * a + q := nI_clamp (by omega)
    have hin : vp_in (nI (4 * a + q)) 128 := vp_in_nI (by omega) (by omega)
    have hl := (zt_node H hp).2.2.2.1 q
    have hh := (zt_node H hp).2.2.2.2.1 q
    have hx := za_f15 P q
    have K1 : nI (za_f P q) < BL (nI (4 * a + q)).toNatClampNeg ↔ za_f P q < lo p q := by
      rw [ecl, (hb q hq4).1, nI_ltI (by omega) (by omega)]
    have K2 : nI (za_f P q) ≤ BG (nI (4 * a + q)).toNatClampNeg ↔ za_f P q ≤ hi p q := by
      rw [ecl, (hb q hq4).2, nI_leI (by omega) (by omega)]
    refine br_f (nI_ge (b := 4) (by omega) (by omega)) (nm_r (za_4 a q) (zx_feat hP hq4 ⟨hin, br_c (fun z => h0 (fun y => ?_)) (fun z => ⟨hin, br_c (fun z2 => nm_r (nI_1 q) (ih (q + 1) (by omega) ?_)) (fun z2 => h0 (fun y => ?_))⟩)⟩))
    · have := K1.mp z
      have := (y q hq4).1
      omega
    · intro j hj2
      by_cases hjq : j = q
      · rw [hjq]; exact ⟨Nat.not_lt.mp (fun x => z (K1.mpr x)), K2.mp z2⟩
      · exact hj j (by omega)
    · exact z2 (K2.mpr (y q hq4).2)
theorem zx_holds (H : zt_ok s c l e d lo hi) {p a P : Nat} (hP : P < 65536) (hp : p < s) (ha : a < 32) (hb : ∀ f, f < 4 → BL (4 * a + f) = nI (lo p f) ∧ BG (4 * a + f) = nI (hi p f)) {post : Int32 → Prop} (h1 : zt_in lo hi (za_f P) p → post 1) (h0 : ¬ zt_in lo hi (za_f P) p → post 0) : wpX_holds post (LC, LV, FA, BL, BG, AS) (nI a) (nI P) :=
  ⟨5, zx_ho_l H hP hp ha hb h1 h0 4 0 rfl (fun j hj => absurd hj (Nat.not_lt_zero _))⟩
theorem zx_fl (H : zt_ok s c l e d lo hi) (hX : zr_X t s c d lo hi w LC LV FA BL BG AS) (ht : t < 4) {P p : Nat} (hP : P < 65536) (hp : p < s) (hc : c p = 4) (hx : zt_in lo hi (za_f P) p) {post : Int32 → Prop} (h : post (nI (zt_lb c p))) :
    ∀ k q, q + k = zt_lb c s - 1 → q ≤ zt_lb c p → wX_findLeaf_12 post (nI t) (nI P) (nI (zt_lb c s - 1)) LC LV FA BL BG AS (k + 1) (nI q) := by
  have h8 := zt_lb_8 H
  have hlp := zt_lb_lt hp hc
  intro k
  induction k with
  | zero =>
    intro q hq hqp
    rw [show zt_lb c s - 1 = zt_lb c p from by omega, show q = zt_lb c p from by omega]
    exact br_t (nI_le (Nat.le_refl _) (by omega)) h
  | succ k ih =>
    intro q hq hqp
    obtain ⟨p', hp', hc', hl'⟩ := zt_lb_ex (c := c) s q (by omega)
    have hb := (hX.2.1 p' hp' hc').2.2
    rw [hl'] at hb
    refine br_f (nI_ge (by omega) (by omega)) (zx_slot (zx_holds H hP hp' (by omega) hb (fun z => br_f (by decide) ?_) (fun z => br_t rfl (nm_r (nI_1 q) (ih (q + 1) (by omega) ?_)))))
    · rw [← hl', zt_one H hp' hp hc' hc z hx]; exact h
    · rcases Nat.lt_or_eq_of_le hqp with a | a
      · exact a
      · have := zt_lb_inj hc' hc (by omega)
        rw [this] at z
        exact absurd hx z
theorem zx_findLeaf (H : zt_ok s c l e d lo hi) (hX : zr_X t s c d lo hi w LC LV FA BL BG AS) (ht : t < 4) {P p : Nat} (hP : P < 65536) (hp : p < s) (hc : c p = 4) (hx : zt_in lo hi (za_f P) p) {post : Int32 → Prop} (h : post (nI (zt_lb c p))) : wpX_findLeaf post (LC, LV, FA, BL, BG, AS) (nI t) (nI P) := by
  have h1 := zt_lb_pos H
  have et : LC (nI t).toNatClampNeg - 1 = nI (zt_lb c s - 1) := by
    rw [nI_clamp (by omega), hX.1, show (1 : Int32) = nI 1 from rfl, pk_sub h1]
  exact ⟨vp_in_nI ht (by omega), nm_r et ⟨zt_lb c s - 1 + 1, zx_fl H hX ht hP hp hc hx h (zt_lb c s - 1) 0 (Nat.zero_add _) (Nat.zero_le _)⟩⟩
end

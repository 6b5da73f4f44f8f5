/-! what the two states hold of a tree -/
section
variable {t s : Nat} {c l e d : Nat → Nat} {lo hi : Nat → Nat → Nat} {w : Nat → Int32}
variable {LC LV FA BL BG AS LC' LV' FA' BL' BG' AS' SZ AK NM SZ' AK' NM' : Nat → Int32}
def zr_X (t s : Nat) (c d : Nat → Nat) (lo hi : Nat → Nat → Nat) (w : Nat → Int32) (LC LV FA BL BG AS : Nat → Int32) : Prop :=
  LC t = nI (zt_lb c s) ∧
  (∀ p, p < s → c p = 4 → LV (8 * t + zt_lb c p) = w p ∧ FA (8 * t + zt_lb c p) = nI (d p) ∧
    ∀ f, f < 4 → BL (4 * (8 * t + zt_lb c p) + f) = nI (lo p f) ∧ BG (4 * (8 * t + zt_lb c p) + f) = nI (hi p f)) ∧
  ∀ f, f < 4 → AS (4 * t + f) = nI (zt_ct c f s)
def zr_Y (t s : Nat) (c l : Nat → Nat) (w : Nat → Int32) (SZ AK NM : Nat → Int32) : Prop :=
  SZ t = nI s ∧ ∀ p, p < s → (c p = 4 → AK (15 * t + p) = -1 ∧ NM (15 * t + p) = w p) ∧ (c p ≠ 4 → AK (15 * t + p) = nI (c p) ∧ NM (15 * t + p) = nI (l p))
/-- both sides' tree t -/
def zr_T (t : Nat) (LC LV FA BL BG AS SZ AK NM : Nat → Int32) : Prop :=
  ∃ (s : Nat) (c l e d : Nat → Nat) (lo hi : Nat → Nat → Nat) (w : Nat → Int32), zt_ok s c l e d lo hi ∧ zr_X t s c d lo hi w LC LV FA BL BG AS ∧ zr_Y t s c l w SZ AK NM
theorem zr_X_fr (H : zt_ok s c l e d lo hi) (h : zr_X t s c d lo hi w LC LV FA BL BG AS) (h1 : LC' t = LC t) (h2 : ∀ j, j < 8 → LV' (8 * t + j) = LV (8 * t + j)) (h3 : ∀ j, j < 8 → FA' (8 * t + j) = FA (8 * t + j))
    (h4 : ∀ j f, j < 8 → f < 4 → BL' (4 * (8 * t + j) + f) = BL (4 * (8 * t + j) + f)) (h5 : ∀ j f, j < 8 → f < 4 → BG' (4 * (8 * t + j) + f) = BG (4 * (8 * t + j) + f)) (h6 : ∀ f, f < 4 → AS' (4 * t + f) = AS (4 * t + f)) :
    zr_X t s c d lo hi w LC' LV' FA' BL' BG' AS' := by
  obtain ⟨a, b, k⟩ := h
  refine ⟨by rw [h1]; exact a, fun p hp hc => ?_, fun f hf => by rw [h6 f hf]; exact k f hf⟩
  obtain ⟨b1, b2, b3⟩ := b p hp hc
  have hj : zt_lb c p < 8 := by
    have := zt_lb_lt hp hc
    have := zt_lb_8 H
    omega
  refine ⟨by rw [h2 _ hj]; exact b1, by rw [h3 _ hj]; exact b2, fun f hf => ?_⟩
  rw [h4 _ f hj hf, h5 _ f hj hf]
  exact b3 f hf
theorem zr_Y_fr (H : zt_ok s c l e d lo hi) (h : zr_Y t s c l w SZ AK NM) (h1 : SZ' t = SZ t) (h2 : ∀ p, p < 15 → AK' (15 * t + p) = AK (15 * t + p)) (h3 : ∀ p, p < 15 → NM' (15 * t + p) = NM (15 * t + p)) : zr_Y t s c l w SZ' AK' NM' := by
  obtain ⟨a, b⟩ := h
  refine ⟨by rw [h1]; exact a, fun p hp => ?_⟩
  have hp15 : p < 15 := Nat.lt_of_lt_of_le hp H.2.1
  rw [h2 p hp15, h3 p hp15]
  exact b p hp
/-- a tree of one leaf -/
theorem zt_one1 : zt_ok 1 (fun _ => 4) (fun _ => 0) (fun p => p + 1) (fun _ => 0) (fun _ _ => 0) (fun _ _ => 15) := by
  refine ⟨by omega, by omega, rfl, rfl, fun _ => rfl, fun _ => rfl, fun p hp => ?_⟩
  exact ⟨by show p < p + 1; omega, by show p + 1 ≤ 1; omega, by show 2 * 0 + (p + 1) ≤ 1 + p; omega, fun f => by show 0 ≤ 16; omega, fun f => by show 15 ≤ 15; omega, Or.inl ⟨rfl, rfl⟩⟩
theorem zr_X_1 (h1 : LC t = 1) (h2 : LV (8 * t) = 0) (h3 : FA (8 * t) = 0) (h4 : ∀ f, f < 4 → BL (4 * (8 * t) + f) = 0 ∧ BG (4 * (8 * t) + f) = 15 ∧ AS (4 * t + f) = 0) :
    zr_X t 1 (fun _ => 4) (fun _ => 0) (fun _ _ => 0) (fun _ _ => 15) (fun _ => 0) LC LV FA BL BG AS := by
  refine ⟨by rw [h1]; rfl, fun p hp hc => ?_, fun f hf => ?_⟩
  · have hp0 : p = 0 := by omega
    subst hp0
    exact ⟨h2, by rw [show 8 * t + zt_lb (fun _ => 4) 0 = 8 * t from rfl, h3]; rfl, fun f hf => ⟨(h4 f hf).1, (h4 f hf).2.1⟩⟩
  · rw [(h4 f hf).2.2]
    show (0 : Int32) = nI (0 + if 4 = f then 1 else 0)
    rw [if_neg (by omega)]
    all_goals rfl
theorem zr_Y_1 (h1 : SZ t = 1) (h2 : AK (15 * t) = -1) (h3 : NM (15 * t) = 0) : zr_Y t 1 (fun _ => 4) (fun _ => 0) (fun _ => 0) SZ AK NM := by
  refine ⟨h1, fun p hp => ?_⟩
  have hp0 : p = 0 := by omega
  subst hp0
  exact ⟨fun _ => ⟨h2, h3⟩, fun z => absurd rfl z⟩
/-! the split -/
def zt_w (w : Nat → Int32) (p0 : Nat) (q : Nat) : Int32 := if q < p0 then w q else if q ≤ p0 + 1 then w p0 else if q = p0 + 2 then 0 else w (q - 2)
theorem zt_w_lt {p0 q : Nat} (h : q < p0) : zt_w w p0 q = w q := by unfold zt_w; rw [if_pos h]
theorem zt_w_1 {p0 : Nat} : zt_w w p0 (p0 + 1) = w p0 := by unfold zt_w; rw [if_neg (by omega), if_pos (Nat.le_refl _)]
theorem zt_w_2 {p0 : Nat} : zt_w w p0 (p0 + 2) = 0 := by unfold zt_w; rw [if_neg (by omega), if_neg (by omega), if_pos rfl]
theorem zt_w_gt {p0 x : Nat} (h : p0 < x) : zt_w w p0 (x + 2) = w x := by unfold zt_w; rw [if_neg (by omega), if_neg (by omega), if_neg (by omega)]; all_goals rfl
theorem zr_cases {p0 q : Nat} (hs : q < s + 2) : q < p0 ∨ q = p0 ∨ q = p0 + 1 ∨ q = p0 + 2 ∨ ∃ x, q = x + 2 ∧ p0 < x ∧ x < s := by
  by_cases h1 : q < p0
  · exact Or.inl h1
  · by_cases h2 : q ≤ p0 + 2
    · omega
    · exact Or.inr (Or.inr (Or.inr (Or.inr ⟨q - 2, by omega, by omega, by omega⟩)))
theorem zr_Y_sp {p0 F L : Nat} (h : zr_Y t s c l w SZ AK NM) (hp : p0 < s) (hc : c p0 = 4) (hF : F < 4) (h1 : SZ' t = nI (s + 2))
    (h2 : ∀ k, AK' k = if k = 15 * t + p0 then nI F else if k = 15 * t + p0 + 1 ∨ k = 15 * t + p0 + 2 then -1 else if 15 * t + p0 + 2 < k ∧ k < 15 * t + s + 2 then AK (k - 2) else AK k)
    (h3 : ∀ k, NM' k = if k = 15 * t + p0 then nI L else if k = 15 * t + p0 + 1 then NM (15 * t + p0) else if k = 15 * t + p0 + 2 then 0 else if 15 * t + p0 + 2 < k ∧ k < 15 * t + s + 2 then NM (k - 2) else NM k) :
    zr_Y t (s + 2) (zt_c c p0 F) (zt_l l p0 L) (zt_w w p0) SZ' AK' NM' := by
  obtain ⟨a, b⟩ := h
  refine ⟨h1, fun q hq => ?_⟩
  rw [h2, h3]
  rcases zr_cases (p0 := p0) hq with z | z | z | z | ⟨x, z, z1, z2⟩
  · rw [if_neg (by omega), if_neg (by omega), if_neg (by omega), if_neg (by omega), if_neg (by omega), if_neg (by omega), if_neg (by omega), zt_c_lt z, zt_l_lt z, zt_w_lt z]
    exact b q (by omega)
  · subst z
    rw [if_pos rfl, if_pos rfl, zt_c_at, zt_l_at]
    exact ⟨fun z => absurd z (by omega), fun _ => ⟨rfl, rfl⟩⟩
  · subst z
    rw [if_neg (by omega), if_pos (by omega), if_neg (by omega), if_pos (by omega), zt_c_12 (by omega) (by omega), zt_w_1]
    exact ⟨fun _ => ⟨rfl, ((b p0 hp).1 hc).2⟩, fun z => absurd rfl z⟩
  · subst z
    rw [if_neg (by omega), if_pos (by omega), if_neg (by omega), if_neg (by omega), if_pos (by omega), zt_c_12 (by omega) (by omega), zt_w_2]
    exact ⟨fun _ => ⟨rfl, rfl⟩, fun z => absurd rfl z⟩
  · subst z
    rw [if_neg (by omega), if_neg (by omega), if_pos (by omega), if_neg (by omega), if_neg (by omega), if_neg (by omega), if_pos (by omega), zt_c_gt z1, zt_l_gt z1, zt_w_gt z1, show 15 * t + (x + 2) - 2 = 15 * t + x from by omega]
    exact b x z2
theorem zr_X_sp {p0 F L : Nat} (H : zt_ok s c l e d lo hi) (h : zr_X t s c d lo hi w LC LV FA BL BG AS) (hp : p0 < s) (hc : c p0 = 4) (hF : F < 4) (hL : L ≤ 15)
    (h1 : LC' t = nI (zt_lb c s + 1))
    (h2 : ∀ k, LV' k = if k = 8 * t + zt_lb c p0 + 1 then 0 else if 8 * t + zt_lb c p0 + 1 < k ∧ k ≤ 8 * t + zt_lb c s then LV (k - 1) else LV k)
    (h3 : ∀ k, FA' k = if k = 8 * t + zt_lb c p0 ∨ k = 8 * t + zt_lb c p0 + 1 then FA (8 * t + zt_lb c p0) + 1 else if 8 * t + zt_lb c p0 + 1 < k ∧ k ≤ 8 * t + zt_lb c s then FA (k - 1) else FA k)
    (h4 : ∀ j f, f < 4 → BL' (4 * j + f) = if j = 8 * t + zt_lb c p0 + 1 then (if f = F ∧ BL (4 * (8 * t + zt_lb c p0) + f) < nI (L + 1) then nI (L + 1) else BL (4 * (8 * t + zt_lb c p0) + f)) else if 8 * t + zt_lb c p0 + 1 < j ∧ j ≤ 8 * t + zt_lb c s then BL (4 * (j - 1) + f) else BL (4 * j + f))
    (h5 : ∀ j f, f < 4 → BG' (4 * j + f) = if j = 8 * t + zt_lb c p0 then (if f = F ∧ nI L < BG (4 * (8 * t + zt_lb c p0) + f) then nI L else BG (4 * (8 * t + zt_lb c p0) + f)) else if 8 * t + zt_lb c p0 < j ∧ j ≤ 8 * t + zt_lb c s then BG (4 * (j - 1) + f) else BG (4 * j + f))
    (h6 : ∀ f, f < 4 → AS' (4 * t + f) = if F = f then AS (4 * t + f) + 1 else AS (4 * t + f)) :
    zr_X t (s + 2) (zt_c c p0 F) (zt_d d p0) (zt_lo lo p0 F L) (zt_hi hi p0 F L) (zt_w w p0) LC' LV' FA' BL' BG' AS' := by
  obtain ⟨a, b, k⟩ := h
  obtain ⟨b1, b2, b3⟩ := b p0 hp hc
  have hps := zt_lb_lt hp hc
  refine ⟨by rw [h1, zt_lbG hc hF hp], fun q hq hcq => ?_, fun f hf => ?_⟩
  · rcases zr_cases (p0 := p0) hq with z | z | z | z | ⟨x, z, z1, z2⟩
    · rw [zt_c_lt z] at hcq
      have hj := zt_lb_lt z hcq
      obtain ⟨x1, x2, x3⟩ := b q (by omega) hcq
      rw [zt_lbL (by omega), zt_w_lt z, zt_d_le (by omega), h2, h3]
      refine ⟨by rw [if_neg (by omega), if_neg (by omega)]; exact x1, by rw [if_neg (by omega), if_neg (by omega)]; exact x2, fun f hf => ?_⟩
      rw [h4 _ f hf, h5 _ f hf, zt_lo_le (by omega), zt_hi_le (by omega), if_neg (by omega), if_neg (by omega), if_neg (by omega), if_neg (by omega)]
      exact x3 f hf
    · subst z
      rw [zt_c_at] at hcq
      omega
    · subst z
      rw [zt_lb1 hF, zt_w_1, zt_d_12 (by omega) (by omega), h2, h3]
      refine ⟨by rw [if_neg (by omega), if_neg (by omega)]; exact b1, by rw [if_pos (by omega), b2, nI_1], fun f hf => ?_⟩
      rw [h4 _ f hf, h5 _ f hf, zt_lo_1, zt_hi_1, if_neg (by omega), if_neg (by omega), if_pos rfl]
      obtain ⟨y1, y2⟩ := b3 f hf
      have hh := (zt_node H hp).2.2.2.2.1 f
      refine ⟨y1, ?_⟩
      have hlt : nI L < nI (hi p0 f) ↔ L < hi p0 f := nI_ltI (by omega) (by omega)
      rw [y2]
      by_cases z : f = F ∧ L < hi p0 f
      · rw [if_pos ⟨z.1, hlt.mpr z.2⟩, if_pos z]
      · rw [if_neg (fun y => z ⟨y.1, hlt.mp y.2⟩), if_neg z]
    · subst z
      rw [zt_lb2 hF, zt_w_2, zt_d_12 (by omega) (by omega), h2, h3]
      refine ⟨by rw [if_pos (by omega)], by rw [if_pos (by omega), b2, nI_1], fun f hf => ?_⟩
      rw [h4 _ f hf, h5 _ f hf, zt_lo_2, zt_hi_2]
      obtain ⟨y1, y2⟩ := b3 f hf
      have hh := (zt_node H hp).2.2.2.1 f
      have hlt : nI (lo p0 f) < nI (L + 1) ↔ lo p0 f < L + 1 := nI_ltI (by omega) (by omega)
      refine ⟨?_, ?_⟩
      · rw [if_pos (show 8 * t + (zt_lb c p0 + 1) = 8 * t + zt_lb c p0 + 1 from by omega), y1]
        by_cases z : f = F ∧ lo p0 f < L + 1
        · rw [if_pos ⟨z.1, hlt.mpr z.2⟩, if_pos z]
        · rw [if_neg (fun y => z ⟨y.1, hlt.mp y.2⟩), if_neg z]
      · rw [if_neg (show ¬ 8 * t + (zt_lb c p0 + 1) = 8 * t + zt_lb c p0 from by omega), if_pos (by omega), show 8 * t + (zt_lb c p0 + 1) - 1 = 8 * t + zt_lb c p0 from by omega]
        exact y2
    · subst z
      rw [zt_c_gt z1] at hcq
      have hj := zt_lb_lt z1 hc
      have hj2 := zt_lb_lt z2 hcq
      obtain ⟨x1, x2, x3⟩ := b x z2 hcq
      rw [zt_lbG hc hF z1, zt_w_gt z1, zt_d_gt z1, h2, h3]
      refine ⟨by rw [if_neg (by omega), if_pos (by omega)]; exact x1, by rw [if_neg (by omega), if_pos (by omega)]; exact x2, fun f hf => ?_⟩
      rw [h4 _ f hf, h5 _ f hf, zt_lo_gt z1, zt_hi_gt z1, if_neg (by omega), if_pos (by omega), if_neg (by omega), if_pos (by omega), show 8 * t + (zt_lb c x + 1) - 1 = 8 * t + zt_lb c x from by omega]
      exact x3 f hf
  · rw [h6 f hf, zt_ctG hc hf hp, k f hf]
    by_cases z : F = f
    · rw [if_pos z, if_pos z, nI_1]
    · rw [if_neg z, if_neg z]; all_goals rfl
end

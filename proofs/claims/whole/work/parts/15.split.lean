/-! split -/
section
variable {t s : Nat} {c l e d : Nat → Nat} {lo hi : Nat → Nat → Nat} {w : Nat → Int32} {SZ AK NM LW HG LC LV FA BL BG AS : Nat → Int32}
theorem zx_lg {a f L : Nat} (ha : a < 32) (hf : f < 4) {post : SX → Prop} (h : ∀ BG', (∀ k, BG' k = if k = 4 * a + f ∧ nI L < BG (4 * a + f) then nI L else BG k) → post (LC, LV, FA, BL, BG', AS)) : wpX_lowerGreatest post (LC, LV, FA, BL, BG, AS) (nI a) (nI f) (nI L) := by
  have ecl : (nI (4 * a + f)).toNatClampNeg = 4 * a + f := nI_clamp (by omega)
  have hin : vp_in (nI (4 * a + f)) 128 := vp_in_nI (by omega) (by omega)
  unfold wpX_lowerGreatest
  dsimp only
  refine nm_r (za_4 a f) ⟨hin, ?_⟩
  rw [ecl]
  refine br_c (fun z => h BG (fun k => ?_)) (fun z => ⟨hin, nm_e (h _ (fun k => ?_))⟩)
  · rw [if_neg (fun y => Int32.not_lt.mpr z y.2)]
  · by_cases hk : k = 4 * a + f
    · rw [hk, pk_us, if_pos ⟨rfl, Int32.not_le.mp z⟩]
    · rw [pk_un hk, if_neg (fun y => hk y.1)]
theorem zx_rl {a f L : Nat} {y : Int32} (hy : y = nI L) (ha : a < 32) (hf : f < 4) {post : SX → Prop} (h : ∀ BL', (∀ k, BL' k = if k = 4 * a + f ∧ BL (4 * a + f) < nI L then nI L else BL k) → post (LC, LV, FA, BL', BG, AS)) : wpX_raiseLeast post (LC, LV, FA, BL, BG, AS) (nI a) (nI f) y := by
  subst hy
  have ecl : (nI (4 * a + f)).toNatClampNeg = 4 * a + f := nI_clamp (by omega)
  have hin : vp_in (nI (4 * a + f)) 128 := vp_in_nI (by omega) (by omega)
  unfold wpX_raiseLeast
  dsimp only
  refine nm_r (za_4 a f) ⟨hin, ?_⟩
  rw [ecl]
  refine br_c (fun z => h BL (fun k => ?_)) (fun z => ⟨hin, nm_e (h _ (fun k => ?_))⟩)
  · rw [if_neg (fun y => Int32.not_lt.mpr z y.2)]
  · by_cases hk : k = 4 * a + f
    · rw [hk, pk_us, if_pos ⟨rfl, Int32.not_le.mp z⟩]
    · rw [pk_un hk, if_neg (fun y => hk y.1)]
theorem zx_cLV {a b : Nat} {A B : Nat → Int32} (h : zx_sh a b A B) : ∀ k, upd B (a + 1) 0 k = if k = a + 1 then 0 else if a + 1 < k ∧ k ≤ b then A (k - 1) else A k := by
  intro k
  by_cases hk : k = a + 1
  · rw [hk, pk_us, if_pos rfl]
  · rw [pk_un hk, if_neg hk, h k]
    by_cases hk2 : a + 1 < k ∧ k ≤ b
    · rw [if_pos hk2, if_pos (by omega)]
    · rw [if_neg hk2, if_neg (by omega)]
theorem zx_cFA {a b : Nat} {A B : Nat → Int32} (hab : a + 1 ≤ b) (h : zx_sh a b A B) : ∀ k, upd (upd B a (B a + 1)) (a + 1) (upd B a (B a + 1) (a + 1) + 1) k = if k = a ∨ k = a + 1 then A a + 1 else if a + 1 < k ∧ k ≤ b then A (k - 1) else A k := by
  intro k
  have h1 : B a = A a := by rw [h a, if_neg (by omega)]
  have h2 : B (a + 1) = A a := by rw [h (a + 1), if_pos (by omega)]; rfl
  by_cases hk : k = a + 1
  · rw [hk, pk_us, pk_un (by omega), h2, if_pos (Or.inr rfl)]
  · rw [pk_un hk]
    by_cases hk0 : k = a
    · rw [hk0, pk_us, h1, if_pos (Or.inl rfl)]
    · rw [pk_un hk0, if_neg (by omega), h k]
      by_cases hk2 : a + 1 < k ∧ k ≤ b
      · rw [if_pos hk2, if_pos (by omega)]
      · rw [if_neg hk2, if_neg (by omega)]
theorem zx_cBL {a b F : Nat} {y : Int32} {A B C : Nat → Int32} (hab : a + 1 ≤ b) (hF : F < 4) (h : zx_s4 a b A B) (h1 : ∀ k, C k = if k = 4 * (a + 1) + F ∧ B (4 * (a + 1) + F) < y then y else B k) :
    ∀ j f, f < 4 → C (4 * j + f) = if j = a + 1 then (if f = F ∧ A (4 * a + f) < y then y else A (4 * a + f)) else if a + 1 < j ∧ j ≤ b then A (4 * (j - 1) + f) else A (4 * j + f) := by
  intro j f hf
  have e1 : ∀ f, f < 4 → B (4 * (a + 1) + f) = A (4 * a + f) := fun f hf => by rw [h (a + 1) f hf, if_pos (by omega)]; rfl
  rw [h1]
  by_cases hj : j = a + 1
  · rw [hj, if_pos rfl, e1 f hf, e1 F hF]
    by_cases hfF : f = F
    · rw [hfF]
      by_cases z : A (4 * a + F) < y
      · rw [if_pos ⟨rfl, z⟩, if_pos ⟨rfl, z⟩]
      · rw [if_neg (fun x => z x.2), if_neg (fun x => z x.2)]
    · rw [if_neg (fun x => hfF (by have := x.1; omega)), if_neg (fun x => hfF x.1)]
  · rw [if_neg (fun x => hj (by have := x.1; omega)), if_neg hj, h j f hf]
    by_cases hk2 : a + 1 < j ∧ j ≤ b
    · rw [if_pos hk2, if_pos (by omega)]
    · rw [if_neg hk2, if_neg (by omega)]
theorem zx_cBG {a b F : Nat} {y : Int32} {A B C : Nat → Int32} (hF : F < 4) (h : zx_s4 a b A B) (h1 : ∀ k, C k = if k = 4 * a + F ∧ y < B (4 * a + F) then y else B k) :
    ∀ j f, f < 4 → C (4 * j + f) = if j = a then (if f = F ∧ y < A (4 * a + f) then y else A (4 * a + f)) else if a < j ∧ j ≤ b then A (4 * (j - 1) + f) else A (4 * j + f) := by
  intro j f hf
  have e1 : ∀ f, f < 4 → B (4 * a + f) = A (4 * a + f) := fun f hf => by rw [h a f hf, if_neg (by omega)]
  rw [h1]
  by_cases hj : j = a
  · rw [hj, if_pos rfl, e1 f hf, e1 F hF]
    by_cases hfF : f = F
    · rw [hfF]
      by_cases z : y < A (4 * a + F)
      · rw [if_pos ⟨rfl, z⟩, if_pos ⟨rfl, z⟩]
      · rw [if_neg (fun x => z x.2), if_neg (fun x => z x.2)]
    · rw [if_neg (fun x => hfF (by have := x.1; omega)), if_neg (fun x => hfF x.1)]
  · rw [if_neg (fun x => hj (by have := x.1; omega)), if_neg hj, h j f hf]
theorem zx_split {p F L : Nat} (H : zt_ok s c l e d lo hi) (hX : zr_X t s c d lo hi w LC LV FA BL BG AS) (ht : t < 4) (hp : p < s) (hc : c p = 4) (hF : F < 4) (hL : L ≤ 15) (hs : s ≤ 13) {post : Int32 → SX → Prop}
    (h : ∀ LV' FA' BL' BG', (∀ k, LV' k = if k = 8 * t + zt_lb c p + 1 then 0 else if 8 * t + zt_lb c p + 1 < k ∧ k ≤ 8 * t + zt_lb c s then LV (k - 1) else LV k) →
      (∀ k, FA' k = if k = 8 * t + zt_lb c p ∨ k = 8 * t + zt_lb c p + 1 then FA (8 * t + zt_lb c p) + 1 else if 8 * t + zt_lb c p + 1 < k ∧ k ≤ 8 * t + zt_lb c s then FA (k - 1) else FA k) →
      (∀ j f, f < 4 → BL' (4 * j + f) = if j = 8 * t + zt_lb c p + 1 then (if f = F ∧ BL (4 * (8 * t + zt_lb c p) + f) < nI (L + 1) then nI (L + 1) else BL (4 * (8 * t + zt_lb c p) + f)) else if 8 * t + zt_lb c p + 1 < j ∧ j ≤ 8 * t + zt_lb c s then BL (4 * (j - 1) + f) else BL (4 * j + f)) →
      (∀ j f, f < 4 → BG' (4 * j + f) = if j = 8 * t + zt_lb c p then (if f = F ∧ nI L < BG (4 * (8 * t + zt_lb c p) + f) then nI L else BG (4 * (8 * t + zt_lb c p) + f)) else if 8 * t + zt_lb c p < j ∧ j ≤ 8 * t + zt_lb c s then BG (4 * (j - 1) + f) else BG (4 * j + f)) →
      post (nI (zt_lb c s + 1)) (upd LC t (nI (zt_lb c s + 1)), LV', FA', BL', BG', upd AS (4 * t + F) (AS (4 * t + F) + 1))) :
    wpX_split post (LC, LV, FA, BL, BG, AS) (nI t) (nI (zt_lb c p)) (nI F) (nI L) := by
  have hls := zt_lb_s H
  have hlt := zt_lb_lt hp hc
  have et : (nI t).toNatClampNeg = t := nI_clamp (by omega)
  have it : vp_in (nI t) 4 := vp_in_nI ht (by omega)
  have e0 : (nI (8 * t + zt_lb c p)).toNatClampNeg = 8 * t + zt_lb c p := nI_clamp (by omega)
  have e1 : (nI (8 * t + zt_lb c p + 1)).toNatClampNeg = 8 * t + zt_lb c p + 1 := nI_clamp (by omega)
  have i0 : vp_in (nI (8 * t + zt_lb c p)) 32 := vp_in_nI (by omega) (by omega)
  have i1 : vp_in (nI (8 * t + zt_lb c p + 1)) 32 := vp_in_nI (by omega) (by omega)
  have ia : vp_in (nI t * 4 + nI F) 16 := by rw [za_4]; exact vp_in_nI (by omega) (by omega)
  have ea : (nI t * 4 + nI F).toNatClampNeg = 4 * t + F := by rw [za_4, nI_clamp (by omega)]
  unfold wpX_split
  dsimp only
  refine zx_isLeaf_t ht hX.1 hlt (by omega) (br_f (by decide) (zx_isFeature_t hF (br_f (by decide) (br_f (nI_pos (by omega)) (br_t (nI_le (b := 15) hL (by omega)) ⟨it, br_f ?_ ?_⟩)))))
  · rw [et, hX.1]
    intro z
    have z' : nI (zt_lb c s) = nI 8 := z
    rw [nI_eq (by omega) (by omega)] at z'
    omega
  · refine zx_db (n := zt_lb c s) ht hX.1 hlt (by omega) (fun LV1 FA1 BL1 BG1 s1 s2 s3 s4 => ?_)
    dsimp only
    refine zx_slot (nm_r (nI_1 _) ⟨i1, ?_⟩)
    rw [e0, e1]
    refine nm_e ⟨i0, i0, nm_e ⟨i1, i1, nm_e (zx_lg (by omega) hF (fun BG2 b2 => ?_))⟩⟩
    dsimp only
    refine zx_rl (nI_1 L) (by omega) hF (fun BL2 b1 => ?_)
    dsimp only
    refine ⟨ia, ia, ?_⟩
    rw [ea, et, pk_us]
    exact nm_e ⟨it, h _ _ _ _ (zx_cLV s1) (zx_cFA (by omega) s2) (zx_cBL (by omega) hF s3 b1) (zx_cBG hF s4 b2)⟩
def zy_sh (a b : Nat) (A B : Nat → Int32) : Prop := ∀ k, B k = if a < k ∧ k < b then A (k - 2) else A k
theorem zy_sh_st {x b : Nat} {A B : Nat → Int32} (hab : x + 2 < b) (h : zy_sh (x + 2) b A B) : zy_sh (x + 1) b A (upd B (x + 2) (B x)) := by
  intro k
  by_cases hk : k = x + 2
  · rw [hk, pk_us, h x, if_neg (by omega), if_pos (by omega)]; rfl
  · rw [pk_un hk, h k]
    by_cases hk2 : x + 2 < k ∧ k < b
    · rw [if_pos hk2, if_pos (by omega)]
    · rw [if_neg hk2, if_neg (by omega)]
theorem zy_cAK {x b : Nat} {y : Int32} {A B : Nat → Int32} (h : zy_sh (x + 2) b A B) : ∀ k, upd (upd (upd B (x + 1) (-1)) (x + 2) (-1)) x y k = if k = x then y else if k = x + 1 ∨ k = x + 2 then -1 else if x + 2 < k ∧ k < b then A (k - 2) else A k := by
  intro k
  by_cases h0 : k = x
  · rw [h0, pk_us, if_pos rfl]
  · rw [pk_un h0, if_neg h0]
    by_cases h2 : k = x + 2
    · rw [h2, pk_us, if_pos (Or.inr rfl)]
    · rw [pk_un h2]
      by_cases h1 : k = x + 1
      · rw [h1, pk_us, if_pos (Or.inl rfl)]
      · rw [pk_un h1, if_neg (by omega), h k]
theorem zy_cNM {x b : Nat} {y : Int32} {A B : Nat → Int32} (h : zy_sh (x + 2) b A B) : ∀ k, upd (upd (upd B (x + 1) (B x)) (x + 2) 0) x y k = if k = x then y else if k = x + 1 then A x else if k = x + 2 then 0 else if x + 2 < k ∧ k < b then A (k - 2) else A k := by
  intro k
  have hx : B x = A x := by rw [h x, if_neg (by omega)]
  by_cases h0 : k = x
  · rw [h0, pk_us, if_pos rfl]
  · rw [pk_un h0, if_neg h0]
    by_cases h2 : k = x + 2
    · rw [h2, pk_us, if_neg (by omega), if_pos rfl]
    · rw [pk_un h2]
      by_cases h1 : k = x + 1
      · rw [h1, pk_us, if_pos rfl, hx]
      · rw [pk_un h1, if_neg h1, if_neg h2, h k]
theorem zy_sp_l {p F L : Nat} (ht : t < 4) (hS : SZ t = nI s) (hp : p < s) (hs : s ≤ 13) {post : Int32 → SY → Prop}
    (h : ∀ AK' NM', zy_sh (15 * t + p + 2) (15 * t + s + 2) AK AK' → zy_sh (15 * t + p + 2) (15 * t + s + 2) NM NM' →
      post (nI ((s + 2 + 1) / 2)) (upd SZ t (nI (s + 2)), upd (upd (upd AK' (15 * t + p + 1) (-1)) (15 * t + p + 2) (-1)) (15 * t + p) (nI F), upd (upd (upd NM' (15 * t + p + 1) (NM' (15 * t + p))) (15 * t + p + 2) 0) (15 * t + p) (nI L), LW, HG)) :
    ∀ k AK' NM', p + k < s → zy_sh (15 * t + (p + k) + 2) (15 * t + s + 2) AK AK' → zy_sh (15 * t + (p + k) + 2) (15 * t + s + 2) NM NM' → wY_split_60 post (nI t) (nI F) (nI L) (nI p) (k + 1) (nI (p + k)) SZ AK' NM' LW HG := by
  have et : (nI t).toNatClampNeg = t := nI_clamp (by omega)
  have it : vp_in (nI t) 4 := vp_in_nI ht (by omega)
  intro k
  induction k with
  | zero =>
    intro AK' NM' hk h1 h2
    have x1 : 15 * nI t + nI p + 1 = nI (15 * t + p + 1) := by rw [za_15, nI_1]
    have x2 : 15 * nI t + nI p + 2 = nI (15 * t + p + 2) := by rw [za_15, show (2 : Int32) = nI 2 from rfl, nI_add]
    have i0 : vp_in (15 * nI t + nI p) 60 := zy_in ht (by omega)
    have i1 : vp_in (15 * nI t + nI p + 1) 60 := by rw [x1]; exact vp_in_nI (by omega) (by omega)
    have i2 : vp_in (15 * nI t + nI p + 2) 60 := by rw [x2]; exact vp_in_nI (by omega) (by omega)
    have c0 : (15 * nI t + nI p).toNatClampNeg = 15 * t + p := zy_ix ht (by omega)
    have c1 : (15 * nI t + nI p + 1).toNatClampNeg = 15 * t + p + 1 := by rw [x1, nI_clamp (by omega)]
    have c2 : (15 * nI t + nI p + 2).toNatClampNeg = 15 * t + p + 2 := by rw [x2, nI_clamp (by omega)]
    refine br_t (nI_le (Nat.le_refl _) (by omega)) ⟨i1, fun a1 q1 => ⟨i0, i1, fun m1 q2 => ⟨i2, fun a2 q3 => ⟨i2, fun m2 q4 => ⟨i0, fun a3 q5 => ⟨i0, fun m3 q6 => ⟨it, it, fun z qz => ?_⟩⟩⟩⟩⟩⟩⟩
    rw [c1] at q1
    rw [c0, c1] at q2
    rw [c2] at q3 q4
    rw [c0] at q5 q6
    rw [et, hS, show (2 : Int32) = nI 2 from rfl, nI_add] at qz
    subst q1 q2 q3 q4 q5 q6 qz
    exact zy_leaves ht (s := s + 2) pk_us (by omega) (h AK' NM' h1 h2)
  | succ k ih =>
    intro AK' NM' hk h1 h2
    have x2 : 15 * nI t + nI (p + (k + 1)) + 2 = nI (15 * t + (p + (k + 1)) + 2) := by rw [za_15, show (2 : Int32) = nI 2 from rfl, nI_add]
    have i0 : vp_in (15 * nI t + nI (p + (k + 1))) 60 := zy_in ht (by omega)
    have i2 : vp_in (15 * nI t + nI (p + (k + 1)) + 2) 60 := by rw [x2]; exact vp_in_nI (by omega) (by omega)
    have c0 : (15 * nI t + nI (p + (k + 1))).toNatClampNeg = 15 * t + (p + (k + 1)) := zy_ix ht (by omega)
    have c2 : (15 * nI t + nI (p + (k + 1)) + 2).toNatClampNeg = 15 * t + (p + (k + 1)) + 2 := by rw [x2, nI_clamp (by omega)]
    refine br_f (nI_ge (by omega) (by omega)) ⟨i0, i2, fun a qa => ⟨i0, i2, fun m qm => nm_r (pk_m1 (p + k)) (ih a m (by omega) ?_ ?_)⟩⟩
    · rw [qa, c0, c2]
      exact zy_sh_st (x := 15 * t + (p + (k + 1))) (by omega) h1
    · rw [qm, c0, c2]
      exact zy_sh_st (x := 15 * t + (p + (k + 1))) (by omega) h2
theorem zy_sh_0 {a b : Nat} (hab : b ≤ a + 1) (A : Nat → Int32) : zy_sh a b A A := fun k => by rw [if_neg (by omega)]
end

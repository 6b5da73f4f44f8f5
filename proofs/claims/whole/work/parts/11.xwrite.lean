/-! X's makeOneLeaf, copyLeaf, doubleLeaf -/
section
variable {t n i : Nat} {LC LV FA BL BG AS : Nat → Int32}
theorem zx_mk_l (ht : t < 4) {post : SX → Prop}
    (h : ∀ BL' BG' AS', (∀ f, f < 4 → BL' (4 * (8 * t) + f) = 0 ∧ BG' (4 * (8 * t) + f) = 15 ∧ AS' (4 * t + f) = 0) → (∀ k, (k < 4 * (8 * t) ∨ 4 * (8 * t) + 4 ≤ k) → BL' k = BL k ∧ BG' k = BG k) → (∀ k, (k < 4 * t ∨ 4 * t + 4 ≤ k) → AS' k = AS k) → post (LC, LV, FA, BL', BG', AS')) :
    ∀ k q BL' BG' AS', q + k = 4 → (∀ f, f < q → BL' (4 * (8 * t) + f) = 0 ∧ BG' (4 * (8 * t) + f) = 15 ∧ AS' (4 * t + f) = 0) → (∀ k, (k < 4 * (8 * t) ∨ 4 * (8 * t) + 4 ≤ k) → BL' k = BL k ∧ BG' k = BG k) → (∀ k, (k < 4 * t ∨ 4 * t + 4 ≤ k) → AS' k = AS k) →
      wX_makeOneLeaf_29 post (nI t) (nI (8 * t)) (k + 1) (nI q) LC LV FA BL' BG' AS' := by
  intro k
  induction k with
  | zero =>
    intro q BL' BG' AS' hq h1 h2 h3
    have hq' : q = 4 := by omega
    rw [hq'] at h1 ⊢
    exact br_t (by decide) (h BL' BG' AS' h1 h2 h3)
  | succ k ih =>
    intro q BL' BG' AS' hq h1 h2 h3
    have hin : vp_in (nI (8 * t) * 4 + nI q) 128 := by rw [za_4]; exact vp_in_nI (by omega) (by omega)
    have hin2 : vp_in (nI t * 4 + nI q) 16 := by rw [za_4]; exact vp_in_nI (by omega) (by omega)
    have ecl : (nI (8 * t) * 4 + nI q).toNatClampNeg = 4 * (8 * t) + q := by rw [za_4, nI_clamp (by omega)]
    have ecl2 : (nI t * 4 + nI q).toNatClampNeg = 4 * t + q := by rw [za_4, nI_clamp (by omega)]
    refine br_f (nI_ge (b := 4) (by omega) (by omega)) ⟨hin, fun a ea => ⟨hin, fun b eb => ⟨hin2, fun g eg => nm_r (nI_1 q) (ih (q + 1) a b g (by omega) ?_ ?_ ?_)⟩⟩⟩
    · intro f hf
      rw [ea, eb, eg, ecl, ecl2]
      by_cases hfq : f = q
      · rw [hfq, pk_us, pk_us, pk_us]; exact ⟨rfl, rfl, rfl⟩
      · rw [pk_un (by omega), pk_un (by omega), pk_un (by omega)]; exact h1 f (by omega)
    · intro j hj
      rw [ea, eb, ecl, pk_un (by omega), pk_un (by omega)]; exact h2 j hj
    · intro j hj
      rw [eg, ecl2, pk_un (by omega)]; exact h3 j hj
theorem zx_mk (ht : t < 4) {post : SX → Prop}
    (h : ∀ BL' BG' AS', (∀ f, f < 4 → BL' (4 * (8 * t) + f) = 0 ∧ BG' (4 * (8 * t) + f) = 15 ∧ AS' (4 * t + f) = 0) → (∀ k, (k < 4 * (8 * t) ∨ 4 * (8 * t) + 4 ≤ k) → BL' k = BL k ∧ BG' k = BG k) → (∀ k, (k < 4 * t ∨ 4 * t + 4 ≤ k) → AS' k = AS k) → post (upd LC t 1, upd LV (8 * t) 0, upd FA (8 * t) 0, BL', BG', AS')) :
    wpX_makeOneLeaf post (LC, LV, FA, BL, BG, AS) (nI t) := by
  have et : (nI t).toNatClampNeg = t := nI_clamp (by omega)
  have e8 : (nI (8 * t)).toNatClampNeg = 8 * t := nI_clamp (by omega)
  have hin : vp_in (nI (8 * t)) 32 := vp_in_nI (by omega) (by omega)
  unfold wpX_makeOneLeaf
  dsimp only
  refine zx_slot (i := 0) ⟨vp_in_nI ht (by omega), ?_⟩
  rw [et]
  refine nm_e ⟨hin, ?_⟩
  rw [show 8 * t + 0 = 8 * t from rfl, e8]
  refine nm_e ⟨hin, nm_e ⟨5, ?_⟩⟩
  exact zx_mk_l ht h 4 0 BL BG AS rfl (fun j hj => absurd hj (Nat.not_lt_zero _)) (fun _ _ => ⟨rfl, rfl⟩) (fun _ _ => rfl)
theorem zx_cp_l {a : Nat} (ha : a + 1 < 32) {post : SX → Prop}
    (h : ∀ BL' BG', (∀ f, f < 4 → BL' (4 * (a + 1) + f) = BL (4 * a + f) ∧ BG' (4 * (a + 1) + f) = BG (4 * a + f)) → (∀ k, (k < 4 * (a + 1) ∨ 4 * (a + 1) + 4 ≤ k) → BL' k = BL k ∧ BG' k = BG k) → post (LC, LV, FA, BL', BG', AS)) :
    ∀ k q BL' BG', q + k = 4 → (∀ f, f < q → BL' (4 * (a + 1) + f) = BL (4 * a + f) ∧ BG' (4 * (a + 1) + f) = BG (4 * a + f)) → (∀ k, (k < 4 * (a + 1) ∨ 4 * (a + 1) + 4 ≤ k) → BL' k = BL k ∧ BG' k = BG k) →
      wX_copyLeaf_26 post (nI a) (nI (a + 1)) (k + 1) (nI q) LC LV FA BL' BG' AS := by
  intro k
  induction k with
  | zero =>
    intro q BL' BG' hq h1 h2
    have hq' : q = 4 := by omega
    rw [hq'] at h1 ⊢
    exact br_t (by decide) (h BL' BG' h1 h2)
  | succ k ih =>
    intro q BL' BG' hq h1 h2
    have hin : vp_in (nI a * 4 + nI q) 128 := by rw [za_4]; exact vp_in_nI (by omega) (by omega)
    have hin2 : vp_in (nI (a + 1) * 4 + nI q) 128 := by rw [za_4]; exact vp_in_nI (by omega) (by omega)
    have ecl : (nI a * 4 + nI q).toNatClampNeg = 4 * a + q := by rw [za_4, nI_clamp (by omega)]
    have ecl2 : (nI (a + 1) * 4 + nI q).toNatClampNeg = 4 * (a + 1) + q := by rw [za_4, nI_clamp (by omega)]
    refine br_f (nI_ge (b := 4) (by omega) (by omega)) ⟨hin, hin2, fun x ex => ⟨hin, hin2, fun y ey => nm_r (nI_1 q) (ih (q + 1) x y (by omega) ?_ ?_)⟩⟩
    · intro f hf
      rw [ex, ey, ecl, ecl2]
      by_cases hfq : f = q
      · rw [hfq, pk_us, pk_us]; exact h2 (4 * a + q) (by omega)
      · rw [pk_un (by omega), pk_un (by omega)]; exact h1 f (by omega)
    · intro j hj
      rw [ex, ey, ecl2, pk_un (by omega), pk_un (by omega)]; exact h2 j hj
theorem zx_cp {a : Nat} (ha : a + 1 < 32) {post : SX → Prop} {x y : Int32} (hx : x = nI a) (hy : y = nI (a + 1))
    (h : ∀ BL' BG', (∀ f, f < 4 → BL' (4 * (a + 1) + f) = BL (4 * a + f) ∧ BG' (4 * (a + 1) + f) = BG (4 * a + f)) → (∀ k, (k < 4 * (a + 1) ∨ 4 * (a + 1) + 4 ≤ k) → BL' k = BL k ∧ BG' k = BG k) → post (LC, upd LV (a + 1) (LV a), upd FA (a + 1) (FA a), BL', BG', AS)) :
    wpX_copyLeaf post (LC, LV, FA, BL, BG, AS) x y := by
  subst hx hy
  have e1 : (nI a).toNatClampNeg = a := nI_clamp (by omega)
  have e2 : (nI (a + 1)).toNatClampNeg = a + 1 := nI_clamp (by omega)
  have i1 : vp_in (nI a) 32 := vp_in_nI (by omega) (by omega)
  have i2 : vp_in (nI (a + 1)) 32 := vp_in_nI (by omega) (by omega)
  unfold wpX_copyLeaf
  dsimp only
  rw [e1, e2]
  refine ⟨i1, i2, nm_e ⟨i1, i2, nm_e ⟨5, ?_⟩⟩⟩
  exact zx_cp_l ha h 4 0 BL BG rfl (fun j hj => absurd hj (Nat.not_lt_zero _)) (fun _ _ => ⟨rfl, rfl⟩)
/-- B is A with the cells behind lo, up to hi, moved up by one -/
def zx_sh (a b : Nat) (A B : Nat → Int32) : Prop := ∀ k, B k = if a < k ∧ k ≤ b then A (k - 1) else A k
def zx_s4 (a b : Nat) (A B : Nat → Int32) : Prop := ∀ m f, f < 4 → B (4 * m + f) = if a < m ∧ m ≤ b then A (4 * (m - 1) + f) else A (4 * m + f)
theorem zx_sh_st {a b : Nat} {A B : Nat → Int32} (hab : a + 1 ≤ b) (h : zx_sh (a + 1) b A B) : zx_sh a b A (upd B (a + 1) (B a)) := by
  intro k
  by_cases hk : k = a + 1
  · rw [hk, pk_us, h a, if_neg (by omega), if_pos (by omega)]; rfl
  · rw [pk_un hk, h k]
    by_cases hk2 : a + 1 < k ∧ k ≤ b
    · rw [if_pos hk2, if_pos (by omega)]
    · rw [if_neg hk2, if_neg (by omega)]
theorem zx_s4_st {a b : Nat} {A B C : Nat → Int32} (hab : a + 1 ≤ b) (h : zx_s4 (a + 1) b A B) (h1 : ∀ f, f < 4 → C (4 * (a + 1) + f) = B (4 * a + f)) (h2 : ∀ k, (k < 4 * (a + 1) ∨ 4 * (a + 1) + 4 ≤ k) → C k = B k) : zx_s4 a b A C := by
  intro m f hf
  by_cases hk : m = a + 1
  · rw [hk, h1 f hf, h a f hf, if_neg (by omega), if_pos (by omega)]; rfl
  · rw [h2 _ (by omega), h m f hf]
    by_cases hk2 : a + 1 < m ∧ m ≤ b
    · rw [if_pos hk2, if_pos (by omega)]
    · rw [if_neg hk2, if_neg (by omega)]
theorem zx_db_l (ht : t < 4) (hn : LC t = nI n) (hin : i < n) (hn7 : n ≤ 7) {post : SX → Prop}
    (h : ∀ LV' FA' BL' BG', zx_sh (8 * t + i) (8 * t + n) LV LV' → zx_sh (8 * t + i) (8 * t + n) FA FA' → zx_s4 (8 * t + i) (8 * t + n) BL BL' → zx_s4 (8 * t + i) (8 * t + n) BG BG' → post (upd LC t (nI (n + 1)), LV', FA', BL', BG', AS)) :
    ∀ k LV' FA' BL' BG', i + k ≤ n → zx_sh (8 * t + (i + k)) (8 * t + n) LV LV' → zx_sh (8 * t + (i + k)) (8 * t + n) FA FA' → zx_s4 (8 * t + (i + k)) (8 * t + n) BL BL' → zx_s4 (8 * t + (i + k)) (8 * t + n) BG BG' →
      wX_doubleLeaf_7 post (nI t) (nI i) (k + 1) (nI (i + k)) LC LV' FA' BL' BG' AS := by
  have et : (nI t).toNatClampNeg = t := nI_clamp (by omega)
  have it : vp_in (nI t) 4 := vp_in_nI ht (by omega)
  intro k
  induction k with
  | zero =>
    intro LV' FA' BL' BG' hk h1 h2 h3 h4
    refine br_t (nI_le (Nat.le_refl _) (by omega)) ⟨it, it, nm_r ?_ (h LV' FA' BL' BG' h1 h2 h3 h4)⟩
    rw [et, hn, nI_1]
  | succ k ih =>
    intro LV' FA' BL' BG' hk h1 h2 h3 h4
    have e1 : nI (8 * t + (i + (k + 1))) - 1 = nI (8 * t + (i + k)) := nI_pred (8 * t + (i + k))
    refine br_f (nI_ge (by omega) (by omega)) (zx_slot (zx_cp (a := 8 * t + (i + k)) (by omega) e1 rfl (fun BL2 BG2 g1 g2 => nm_r (pk_m1 (i + k)) (ih _ _ BL2 BG2 (by omega) ?_ ?_ ?_ ?_))))
    · exact zx_sh_st (by omega) h1
    · exact zx_sh_st (by omega) h2
    · exact zx_s4_st (by omega) h3 (fun f hf => (g1 f hf).1) (fun k hk => (g2 k hk).1)
    · exact zx_s4_st (by omega) h4 (fun f hf => (g1 f hf).2) (fun k hk => (g2 k hk).2)
theorem zx_sh_0 (a : Nat) (A : Nat → Int32) : zx_sh a a A A := fun k => by rw [if_neg (by omega)]
theorem zx_s4_0 (a : Nat) (A : Nat → Int32) : zx_s4 a a A A := fun m f _ => by rw [if_neg (by omega)]
theorem zx_db (ht : t < 4) (hn : LC t = nI n) (hin : i < n) (hn7 : n ≤ 7) {post : SX → Prop}
    (h : ∀ LV' FA' BL' BG', zx_sh (8 * t + i) (8 * t + n) LV LV' → zx_sh (8 * t + i) (8 * t + n) FA FA' → zx_s4 (8 * t + i) (8 * t + n) BL BL' → zx_s4 (8 * t + i) (8 * t + n) BG BG' → post (upd LC t (nI (n + 1)), LV', FA', BL', BG', AS)) :
    wpX_doubleLeaf post (LC, LV, FA, BL, BG, AS) (nI t) (nI i) := by
  obtain ⟨k, rfl⟩ : ∃ k, n = i + k := ⟨n - i, by omega⟩
  have et : LC (nI t).toNatClampNeg = nI (i + k) := by rw [nI_clamp (by omega)]; exact hn
  exact ⟨vp_in_nI ht (by omega), nm_r et ⟨k + 1, zx_db_l ht hn hin hn7 h k LV FA BL BG (Nat.le_refl _) (zx_sh_0 _ _) (zx_sh_0 _ _) (zx_s4_0 _ _) (zx_s4_0 _ _)⟩⟩
end

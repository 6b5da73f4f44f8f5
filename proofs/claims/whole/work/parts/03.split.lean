/-! a fork in place of the leaf at p0: the parts behind it move up by two -/
section
variable {s : Nat} {c l e d : Nat → Nat} {lo hi : Nat → Nat → Nat} {p0 F L : Nat}
def zt_c (c : Nat → Nat) (p0 F : Nat) (q : Nat) : Nat := if q < p0 then c q else if q = p0 then F else if q ≤ p0 + 2 then 4 else c (q - 2)
def zt_l (l : Nat → Nat) (p0 L : Nat) (q : Nat) : Nat := if q < p0 then l q else if q = p0 then L else l (q - 2)
def zt_e (e : Nat → Nat) (p0 : Nat) (q : Nat) : Nat := if q ≤ p0 then (if e q ≤ p0 then e q else e q + 2) else if q ≤ p0 + 2 then q + 1 else e (q - 2) + 2
def zt_d (d : Nat → Nat) (p0 : Nat) (q : Nat) : Nat := if q ≤ p0 then d q else if q ≤ p0 + 2 then d p0 + 1 else d (q - 2)
def zt_lo (lo : Nat → Nat → Nat) (p0 F L : Nat) (q f : Nat) : Nat := if q ≤ p0 then lo q f else if q = p0 + 1 then lo p0 f else if q = p0 + 2 then (if f = F ∧ lo p0 f < L + 1 then L + 1 else lo p0 f) else lo (q - 2) f
def zt_hi (hi : Nat → Nat → Nat) (p0 F L : Nat) (q f : Nat) : Nat := if q ≤ p0 then hi q f else if q = p0 + 1 then (if f = F ∧ L < hi p0 f then L else hi p0 f) else if q = p0 + 2 then hi p0 f else hi (q - 2) f
theorem zt_c_lt {q : Nat} (h : q < p0) : zt_c c p0 F q = c q := by unfold zt_c; rw [if_pos h]
theorem zt_c_at : zt_c c p0 F p0 = F := by unfold zt_c; rw [if_neg (by omega), if_pos rfl]
theorem zt_c_12 {q : Nat} (h : p0 < q) (h2 : q ≤ p0 + 2) : zt_c c p0 F q = 4 := by unfold zt_c; rw [if_neg (by omega), if_neg (by omega), if_pos h2]
theorem zt_c_gt {x : Nat} (h : p0 < x) : zt_c c p0 F (x + 2) = c x := by unfold zt_c; rw [if_neg (by omega), if_neg (by omega), if_neg (by omega)]; all_goals rfl
theorem zt_l_lt {q : Nat} (h : q < p0) : zt_l l p0 L q = l q := by unfold zt_l; rw [if_pos h]
theorem zt_l_at : zt_l l p0 L p0 = L := by unfold zt_l; rw [if_neg (by omega), if_pos rfl]
theorem zt_l_gt {x : Nat} (h : p0 < x) : zt_l l p0 L (x + 2) = l x := by unfold zt_l; rw [if_neg (by omega), if_neg (by omega)]; all_goals rfl
theorem zt_e_a {q : Nat} (h : q ≤ p0) (h2 : e q ≤ p0) : zt_e e p0 q = e q := by unfold zt_e; rw [if_pos h, if_pos h2]
theorem zt_e_b {q : Nat} (h : q ≤ p0) (h2 : p0 < e q) : zt_e e p0 q = e q + 2 := by unfold zt_e; rw [if_pos h, if_neg (by omega)]
theorem zt_e_12 {q : Nat} (h : p0 < q) (h2 : q ≤ p0 + 2) : zt_e e p0 q = q + 1 := by unfold zt_e; rw [if_neg (by omega), if_pos h2]
theorem zt_e_gt {x : Nat} (h : p0 < x) : zt_e e p0 (x + 2) = e x + 2 := by unfold zt_e; rw [if_neg (by omega), if_neg (by omega)]; all_goals rfl
theorem zt_d_le {q : Nat} (h : q ≤ p0) : zt_d d p0 q = d q := by unfold zt_d; rw [if_pos h]
theorem zt_d_12 {q : Nat} (h : p0 < q) (h2 : q ≤ p0 + 2) : zt_d d p0 q = d p0 + 1 := by unfold zt_d; rw [if_neg (by omega), if_pos h2]
theorem zt_d_gt {x : Nat} (h : p0 < x) : zt_d d p0 (x + 2) = d x := by unfold zt_d; rw [if_neg (by omega), if_neg (by omega)]; all_goals rfl
theorem zt_lo_le {q : Nat} (h : q ≤ p0) (f : Nat) : zt_lo lo p0 F L q f = lo q f := by unfold zt_lo; rw [if_pos h]
theorem zt_lo_1 (f : Nat) : zt_lo lo p0 F L (p0 + 1) f = lo p0 f := by unfold zt_lo; rw [if_neg (by omega), if_pos rfl]
theorem zt_lo_2 (f : Nat) : zt_lo lo p0 F L (p0 + 2) f = if f = F ∧ lo p0 f < L + 1 then L + 1 else lo p0 f := by
  unfold zt_lo
  rw [if_neg (show ¬ p0 + 2 ≤ p0 by omega), if_neg (show ¬ p0 + 2 = p0 + 1 by omega), if_pos (show p0 + 2 = p0 + 2 from rfl)]
theorem zt_lo_gt {x : Nat} (h : p0 < x) (f : Nat) : zt_lo lo p0 F L (x + 2) f = lo x f := by
  unfold zt_lo
  rw [if_neg (show ¬ x + 2 ≤ p0 by omega), if_neg (show ¬ x + 2 = p0 + 1 by omega), if_neg (show ¬ x + 2 = p0 + 2 by omega)]; all_goals rfl
theorem zt_hi_le {q : Nat} (h : q ≤ p0) (f : Nat) : zt_hi hi p0 F L q f = hi q f := by unfold zt_hi; rw [if_pos h]
theorem zt_hi_1 (f : Nat) : zt_hi hi p0 F L (p0 + 1) f = if f = F ∧ L < hi p0 f then L else hi p0 f := by
  unfold zt_hi
  rw [if_neg (show ¬ p0 + 1 ≤ p0 by omega), if_pos (show p0 + 1 = p0 + 1 from rfl)]
theorem zt_hi_2 (f : Nat) : zt_hi hi p0 F L (p0 + 2) f = hi p0 f := by
  unfold zt_hi
  rw [if_neg (show ¬ p0 + 2 ≤ p0 by omega), if_neg (show ¬ p0 + 2 = p0 + 1 by omega), if_pos (show p0 + 2 = p0 + 2 from rfl)]
theorem zt_hi_gt {x : Nat} (h : p0 < x) (f : Nat) : zt_hi hi p0 F L (x + 2) f = hi x f := by
  unfold zt_hi
  rw [if_neg (show ¬ x + 2 ≤ p0 by omega), if_neg (show ¬ x + 2 = p0 + 1 by omega), if_neg (show ¬ x + 2 = p0 + 2 by omega)]; all_goals rfl
theorem zt_fk_mv {c' l' e' d' : Nat → Nat} {lo' hi' : Nat → Nat → Nat} {x q b : Nat} (hf : zt_fk c l e d lo hi x) (hc : c' q = c x) (hl : l' q = l x) (h1 : e' (q + 1) = b) (h2 : q + 1 < b) (h3 : b < e' q) (h4 : e' b = e' q)
    (hd : d' q = d x) (hd1 : d' (q + 1) = d (x + 1)) (hd2 : d' b = d (e (x + 1)))
    (lo0 : ∀ f, lo' q f = lo x f) (lo1 : ∀ f, lo' (q + 1) f = lo (x + 1) f) (lo2 : ∀ f, lo' b f = lo (e (x + 1)) f)
    (hi0 : ∀ f, hi' q f = hi x f) (hi1 : ∀ f, hi' (q + 1) f = hi (x + 1) f) (hi2 : ∀ f, hi' b f = hi (e (x + 1)) f) : zt_fk c' l' e' d' lo' hi' q := by
  obtain ⟨f1, f2, f3, f4, f5, f6, f7, f8, f9, f10, f11⟩ := hf
  subst h1
  exact ⟨by rw [hc]; exact f1, by rw [hl]; exact f2, h2, h3, h4, by rw [hd1, hd, f6], by rw [hd2, hd, f7], fun f => by rw [lo1, lo0, f8], fun f => by rw [hi1, hi0, hc, hl, f9], fun f => by rw [lo2, lo0, hc, hl, f10], fun f => by rw [hi2, hi0, f11]⟩
/-- an old node ahead of p0 -/
theorem zt_sp_lt (h : zt_ok s c l e d lo hi) (hp : p0 < s) (hc : c p0 = 4) {q : Nat} (hq : q < p0) :
    zt_nd (s + 2) (zt_c c p0 F) (zt_l l p0 L) (zt_e e p0) (zt_d d p0) (zt_lo lo p0 F L) (zt_hi hi p0 F L) q := by
  have hN := zt_node h (p := q) (by omega)
  obtain ⟨n1, n2, n3, n4, n5, n6⟩ := hN
  have hE : zt_e e p0 q = e q ∨ zt_e e p0 q = e q + 2 := by
    by_cases z : e q ≤ p0
    · exact Or.inl (zt_e_a (by omega) z)
    · exact Or.inr (zt_e_b (by omega) (by omega))
  refine ⟨by omega, by omega, by rw [zt_d_le (by omega)]; omega, fun f => by rw [zt_lo_le (by omega)]; exact n4 f, fun f => by rw [zt_hi_le (by omega)]; exact n5 f, ?_⟩
  rcases n6 with hl | hf
  · refine Or.inl ⟨by rw [zt_c_lt hq]; exact hl.1, ?_⟩
    rw [zt_e_a (by omega) (by omega)]; exact hl.2
  · have hk := hf
    obtain ⟨f1, f2, f3, f4, f5, f6, f7, f8, f9, f10, f11⟩ := hf
    refine Or.inr ?_
    by_cases z : e (q + 1) ≤ p0
    · have E1 : zt_e e p0 (q + 1) = e (q + 1) := zt_e_a (by omega) z
      have E2 : zt_e e p0 (e (q + 1)) = zt_e e p0 q := by
        by_cases y : e q ≤ p0
        · rw [zt_e_a z (by omega), zt_e_a (by omega) y, f5]
        · rw [zt_e_b z (by omega), zt_e_b (by omega) (by omega), f5]
      exact zt_fk_mv hk (zt_c_lt hq) (zt_l_lt hq) E1 f3 (by omega) E2 (zt_d_le (by omega)) (zt_d_le (by omega)) (zt_d_le z)
        (zt_lo_le (by omega)) (zt_lo_le (by omega)) (zt_lo_le z) (zt_hi_le (by omega)) (zt_hi_le (by omega)) (zt_hi_le z)
    · have E1 : zt_e e p0 (q + 1) = e (q + 1) + 2 := zt_e_b (by omega) (by omega)
      have E0 : zt_e e p0 q = e q + 2 := zt_e_b (by omega) (by omega)
      have E2 : zt_e e p0 (e (q + 1) + 2) = zt_e e p0 q := by rw [zt_e_gt (by omega), E0, f5]
      exact zt_fk_mv hk (zt_c_lt hq) (zt_l_lt hq) E1 (by omega) (by omega) E2 (zt_d_le (by omega)) (zt_d_le (by omega)) (zt_d_gt (by omega))
        (zt_lo_le (by omega)) (zt_lo_le (by omega)) (zt_lo_gt (by omega)) (zt_hi_le (by omega)) (zt_hi_le (by omega)) (zt_hi_gt (by omega))
/-- an old node behind p0 -/
theorem zt_sp_gt (h : zt_ok s c l e d lo hi) (hp : p0 < s) (hc : c p0 = 4) {q : Nat} (hq : p0 < q) (hqs : q < s) :
    zt_nd (s + 2) (zt_c c p0 F) (zt_l l p0 L) (zt_e e p0) (zt_d d p0) (zt_lo lo p0 F L) (zt_hi hi p0 F L) (q + 2) := by
  have hN := zt_node h hqs
  obtain ⟨n1, n2, n3, n4, n5, n6⟩ := hN
  have hE : zt_e e p0 (q + 2) = e q + 2 := zt_e_gt hq
  refine ⟨by omega, by omega, by rw [zt_d_gt hq]; omega, fun f => by rw [zt_lo_gt hq]; exact n4 f, fun f => by rw [zt_hi_gt hq]; exact n5 f, ?_⟩
  rcases n6 with hl | hf
  · refine Or.inl ⟨by rw [zt_c_gt hq]; exact hl.1, by omega⟩
  · have hk := hf
    obtain ⟨f1, f2, f3, f4, f5, f6, f7, f8, f9, f10, f11⟩ := hf
    have E1 : zt_e e p0 (q + 1 + 2) = e (q + 1) + 2 := zt_e_gt (by omega)
    have E2 : zt_e e p0 (e (q + 1) + 2) = zt_e e p0 (q + 2) := by rw [zt_e_gt (by omega), hE, f5]
    exact Or.inr (zt_fk_mv hk (zt_c_gt hq) (zt_l_gt hq) E1 (by omega) (by omega) E2 (zt_d_gt hq) (zt_d_gt (x := q + 1) (by omega)) (zt_d_gt (by omega))
        (zt_lo_gt hq) (zt_lo_gt (x := q + 1) (by omega)) (zt_lo_gt (by omega)) (zt_hi_gt hq) (zt_hi_gt (x := q + 1) (by omega)) (zt_hi_gt (by omega)))
/-- the new fork and its two leaves -/
theorem zt_sp_at (h : zt_ok s c l e d lo hi) (hp : p0 < s) (hc : c p0 = 4) (hF : F < 4) (hL : L ≤ 15) :
    zt_nd (s + 2) (zt_c c p0 F) (zt_l l p0 L) (zt_e e p0) (zt_d d p0) (zt_lo lo p0 F L) (zt_hi hi p0 F L) p0 := by
  obtain ⟨n1, n2, n3, n4, n5, n6⟩ := zt_node h hp
  have e0 := zt_leaf h hp hc
  have E0 : zt_e e p0 p0 = p0 + 3 := by rw [zt_e_b (Nat.le_refl _) (by omega), e0]
  have E1 : zt_e e p0 (p0 + 1) = p0 + 2 := zt_e_12 (by omega) (by omega)
  have E2 : zt_e e p0 (p0 + 2) = p0 + 3 := zt_e_12 (by omega) (by omega)
  have D0 : zt_d d p0 p0 = d p0 := zt_d_le (Nat.le_refl _)
  refine ⟨by omega, by omega, by omega, fun f => by rw [zt_lo_le (Nat.le_refl _)]; exact n4 f, fun f => by rw [zt_hi_le (Nat.le_refl _)]; exact n5 f, Or.inr ?_⟩
  unfold zt_fk
  rw [E1, E2, E0, D0, zt_c_at, zt_l_at]
  exact ⟨hF, hL, by omega, by omega, rfl, zt_d_12 (by omega) (by omega), zt_d_12 (by omega) (by omega), fun f => by rw [zt_lo_1, zt_lo_le (Nat.le_refl _)],
    fun f => by rw [zt_hi_1, zt_hi_le (Nat.le_refl _)], fun f => by rw [zt_lo_2, zt_lo_le (Nat.le_refl _)], fun f => by rw [zt_hi_2, zt_hi_le (Nat.le_refl _)]⟩
theorem zt_sp_1 (h : zt_ok s c l e d lo hi) (hp : p0 < s) (hc : c p0 = 4) (hF : F < 4) (hL : L ≤ 15) :
    zt_nd (s + 2) (zt_c c p0 F) (zt_l l p0 L) (zt_e e p0) (zt_d d p0) (zt_lo lo p0 F L) (zt_hi hi p0 F L) (p0 + 1) := by
  obtain ⟨n1, n2, n3, n4, n5, n6⟩ := zt_node h hp
  have e0 := zt_leaf h hp hc
  have E1 : zt_e e p0 (p0 + 1) = p0 + 2 := zt_e_12 (by omega) (by omega)
  have D1 : zt_d d p0 (p0 + 1) = d p0 + 1 := zt_d_12 (by omega) (by omega)
  refine ⟨by omega, by omega, by omega, fun f => by rw [zt_lo_1]; exact n4 f, fun f => ?_, Or.inl ⟨zt_c_12 (by omega) (by omega), E1⟩⟩
  rw [zt_hi_1]
  have := n5 f
  split <;> omega
theorem zt_sp_2 (h : zt_ok s c l e d lo hi) (hp : p0 < s) (hc : c p0 = 4) (hF : F < 4) (hL : L ≤ 15) :
    zt_nd (s + 2) (zt_c c p0 F) (zt_l l p0 L) (zt_e e p0) (zt_d d p0) (zt_lo lo p0 F L) (zt_hi hi p0 F L) (p0 + 2) := by
  obtain ⟨n1, n2, n3, n4, n5, n6⟩ := zt_node h hp
  have e0 := zt_leaf h hp hc
  have E1 : zt_e e p0 (p0 + 2) = p0 + 3 := zt_e_12 (by omega) (by omega)
  have D1 : zt_d d p0 (p0 + 2) = d p0 + 1 := zt_d_12 (by omega) (by omega)
  refine ⟨by omega, by omega, by omega, fun f => ?_, fun f => by rw [zt_hi_2]; exact n5 f, Or.inl ⟨zt_c_12 (by omega) (by omega), E1⟩⟩
  rw [zt_lo_2]
  have := n4 f
  split <;> omega
theorem zt_split (h : zt_ok s c l e d lo hi) (hp : p0 < s) (hc : c p0 = 4) (hs : s ≤ 13) (hF : F < 4) (hL : L ≤ 15) :
    zt_ok (s + 2) (zt_c c p0 F) (zt_l l p0 L) (zt_e e p0) (zt_d d p0) (zt_lo lo p0 F L) (zt_hi hi p0 F L) := by
  have e0 := h.2.2.1
  refine ⟨by omega, by omega, ?_, ?_, ?_, ?_, ?_⟩
  · rw [zt_e_b (Nat.zero_le _) (by omega), e0]
  · rw [zt_d_le (Nat.zero_le _)]; exact h.2.2.2.1
  · intro f; rw [zt_lo_le (Nat.zero_le _)]; exact h.2.2.2.2.1 f
  · intro f; rw [zt_hi_le (Nat.zero_le _)]; exact h.2.2.2.2.2.1 f
  · intro q hq
    by_cases h1 : q < p0
    · exact zt_sp_lt h hp hc h1
    · by_cases h2 : p0 + 2 < q
      · obtain ⟨x, rfl⟩ : ∃ x, q = x + 2 := ⟨q - 2, by omega⟩
        exact zt_sp_gt h hp hc (by omega) (by omega)
      · by_cases h3 : q = p0
        · subst h3; exact zt_sp_at h hp hc hF hL
        · by_cases h4 : q = p0 + 1
          · subst h4; exact zt_sp_1 h hp hc hF hL
          · have h5 : q = p0 + 2 := by omega
            subst h5; exact zt_sp_2 h hp hc hF hL
theorem zt_lb_cg {c c' : Nat → Nat} : ∀ n, (∀ j, j < n → c' j = c j) → zt_lb c' n = zt_lb c n := by
  intro n
  induction n with
  | zero => intro _; rfl
  | succ n ih =>
    intro h
    show zt_lb c' n + (if c' n = 4 then 1 else 0) = zt_lb c n + (if c n = 4 then 1 else 0)
    rw [ih (fun j hj => h j (by omega)), h n (by omega)]
theorem zt_ct_cg {c c' : Nat → Nat} (f : Nat) : ∀ n, (∀ j, j < n → c' j = c j) → zt_ct c' f n = zt_ct c f n := by
  intro n
  induction n with
  | zero => intro _; rfl
  | succ n ih =>
    intro h
    show zt_ct c' f n + (if c' n = f then 1 else 0) = zt_ct c f n + (if c n = f then 1 else 0)
    rw [ih (fun j hj => h j (by omega)), h n (by omega)]
theorem zt_lbL {q : Nat} (h : q ≤ p0) : zt_lb (zt_c c p0 F) q = zt_lb c q := zt_lb_cg q (fun j hj => zt_c_lt (by omega))
theorem zt_lb1 (hF : F < 4) : zt_lb (zt_c c p0 F) (p0 + 1) = zt_lb c p0 := by
  rw [zt_lb_fork (by rw [zt_c_at]; omega), zt_lbL (Nat.le_refl _)]
theorem zt_lb2 (hF : F < 4) : zt_lb (zt_c c p0 F) (p0 + 2) = zt_lb c p0 + 1 := by
  rw [zt_lb_leaf (p := p0 + 1) (zt_c_12 (by omega) (by omega)), zt_lb1 hF]
theorem zt_lb3 (hF : F < 4) : zt_lb (zt_c c p0 F) (p0 + 3) = zt_lb c p0 + 2 := by
  rw [zt_lb_leaf (p := p0 + 2) (zt_c_12 (by omega) (by omega)), zt_lb2 hF]
theorem zt_lbR (hc : c p0 = 4) (hF : F < 4) : ∀ k, zt_lb (zt_c c p0 F) (p0 + 1 + k + 2) = zt_lb c (p0 + 1 + k) + 1 := by
  intro k
  induction k with
  | zero =>
    show zt_lb (zt_c c p0 F) (p0 + 3) = zt_lb c (p0 + 1) + 1
    rw [zt_lb3 hF, zt_lb_leaf hc]
  | succ k ih =>
    show zt_lb (zt_c c p0 F) (p0 + 1 + k + 2) + (if zt_c c p0 F (p0 + 1 + k + 2) = 4 then 1 else 0) = zt_lb c (p0 + 1 + k) + (if c (p0 + 1 + k) = 4 then 1 else 0) + 1
    rw [ih, zt_c_gt (by omega)]
    omega
theorem zt_lbG (hc : c p0 = 4) (hF : F < 4) {x : Nat} (hx : p0 < x) : zt_lb (zt_c c p0 F) (x + 2) = zt_lb c x + 1 := by
  have := zt_lbR hc hF (x - (p0 + 1))
  rwa [show p0 + 1 + (x - (p0 + 1)) = x from by omega] at this
theorem zt_ctR (hc : c p0 = 4) {f : Nat} (hf : f < 4) : ∀ k, zt_ct (zt_c c p0 F) f (p0 + 1 + k + 2) = zt_ct c f (p0 + 1 + k) + if F = f then 1 else 0 := by
  intro k
  induction k with
  | zero =>
    show zt_ct (zt_c c p0 F) f p0 + (if zt_c c p0 F p0 = f then 1 else 0) + (if zt_c c p0 F (p0 + 1) = f then 1 else 0) + (if zt_c c p0 F (p0 + 2) = f then 1 else 0) = zt_ct c f p0 + (if c p0 = f then 1 else 0) + if F = f then 1 else 0
    rw [zt_c_at, zt_c_12 (q := p0 + 1) (by omega) (by omega), zt_c_12 (q := p0 + 2) (by omega) (by omega), hc, if_neg (show ¬ 4 = f by omega), zt_ct_cg (c := c) f p0 (fun j hj => zt_c_lt hj)]
    omega
  | succ k ih =>
    show zt_ct (zt_c c p0 F) f (p0 + 1 + k + 2) + (if zt_c c p0 F (p0 + 1 + k + 2) = f then 1 else 0) = zt_ct c f (p0 + 1 + k) + (if c (p0 + 1 + k) = f then 1 else 0) + if F = f then 1 else 0
    rw [ih, zt_c_gt (by omega)]
    omega
theorem zt_ctG (hc : c p0 = 4) {f : Nat} (hf : f < 4) {x : Nat} (hx : p0 < x) : zt_ct (zt_c c p0 F) f (x + 2) = zt_ct c f x + if F = f then 1 else 0 := by
  have := zt_ctR (F := F) hc hf (x - (p0 + 1))
  rwa [show p0 + 1 + (x - (p0 + 1)) = x from by omega] at this
end

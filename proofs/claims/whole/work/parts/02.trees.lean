/-! trees in preorder: s nodes; c p = 4 a leaf, c p < 4 a fork that asks about feature c p with limit l p; e p the end of the part that begins at p; d p its depth; lo p f, hi p f its box -/
section
variable {s : Nat} {c l e d : Nat → Nat} {lo hi : Nat → Nat → Nat}
def zt_fk (c l e d : Nat → Nat) (lo hi : Nat → Nat → Nat) (p : Nat) : Prop :=
  c p < 4 ∧ l p ≤ 15 ∧ p + 1 < e (p + 1) ∧ e (p + 1) < e p ∧ e (e (p + 1)) = e p ∧ d (p + 1) = d p + 1 ∧ d (e (p + 1)) = d p + 1 ∧
  (∀ f, lo (p + 1) f = lo p f) ∧ (∀ f, hi (p + 1) f = if f = c p ∧ l p < hi p f then l p else hi p f) ∧
  (∀ f, lo (e (p + 1)) f = if f = c p ∧ lo p f < l p + 1 then l p + 1 else lo p f) ∧ (∀ f, hi (e (p + 1)) f = hi p f)
def zt_nd (s : Nat) (c l e d : Nat → Nat) (lo hi : Nat → Nat → Nat) (p : Nat) : Prop :=
  p < e p ∧ e p ≤ s ∧ 2 * d p + e p ≤ s + p ∧ (∀ f, lo p f ≤ 16) ∧ (∀ f, hi p f ≤ 15) ∧ ((c p = 4 ∧ e p = p + 1) ∨ zt_fk c l e d lo hi p)
def zt_ok (s : Nat) (c l e d : Nat → Nat) (lo hi : Nat → Nat → Nat) : Prop :=
  1 ≤ s ∧ s ≤ 15 ∧ e 0 = s ∧ d 0 = 0 ∧ (∀ f, lo 0 f = 0) ∧ (∀ f, hi 0 f = 15) ∧ ∀ p, p < s → zt_nd s c l e d lo hi p
theorem zt_node (h : zt_ok s c l e d lo hi) {p : Nat} (hp : p < s) : zt_nd s c l e d lo hi p := h.2.2.2.2.2.2 p hp
theorem zt_leaf (h : zt_ok s c l e d lo hi) {p : Nat} (hp : p < s) (hc : c p = 4) : e p = p + 1 := by
  rcases (zt_node h hp).2.2.2.2.2 with a | a
  · exact a.2
  · have := a.1; omega
theorem zt_fork (h : zt_ok s c l e d lo hi) {p : Nat} (hp : p < s) (hc : c p ≠ 4) : zt_fk c l e d lo hi p := by
  rcases (zt_node h hp).2.2.2.2.2 with a | a
  · exact absurd a.1 hc
  · exact a
theorem zt_c4 (h : zt_ok s c l e d lo hi) {p : Nat} (hp : p < s) (hc : c p ≠ 4) : c p < 4 := (zt_fork h hp hc).1
/-- a part's boxes lie within its own -/
theorem zt_sub (h : zt_ok s c l e d lo hi) : ∀ n q p, q < s → e q - q ≤ n → q ≤ p → p < e q → ∀ f, lo q f ≤ lo p f ∧ hi p f ≤ hi q f := by
  intro n
  induction n with
  | zero => intro q p hq hn h1 h2 f; exfalso; omega
  | succ n ih =>
    intro q p hq hn h1 h2 f
    by_cases hpq : p = q
    · subst hpq; exact ⟨Nat.le_refl _, Nat.le_refl _⟩
    · have hN := zt_node h hq
      have hs := hN.2.1
      rcases hN.2.2.2.2.2 with hl | hf
      · exfalso; omega
      · obtain ⟨f1, f2, f3, f4, f5, f6, f7, f8, f9, f10, f11⟩ := hf
        by_cases hr : p < e (q + 1)
        · have := ih (q + 1) p (by omega) (by omega) (by omega) hr f
          have a1 := f8 f
          have a2 := f9 f
          split at a2 <;> omega
        · have := ih (e (q + 1)) p (by omega) (by omega) (by omega) (by omega) f
          have a1 := f10 f
          have a2 := f11 f
          split at a1 <;> omega
def zt_in (lo hi : Nat → Nat → Nat) (x : Nat → Nat) (p : Nat) : Prop := ∀ f, f < 4 → lo p f ≤ x f ∧ x f ≤ hi p f
/-- where a point goes at a fork -/
theorem zt_inL {q : Nat} (hf : zt_fk c l e d lo hi q) {x : Nat → Nat} (hx : zt_in lo hi x q) (hr : x (c q) ≤ l q) : zt_in lo hi x (q + 1) := by
  obtain ⟨f1, f2, f3, f4, f5, f6, f7, f8, f9, f10, f11⟩ := hf
  intro f hf
  have a := hx f hf
  have a1 := f8 f
  have a2 := f9 f
  by_cases hfc : f = c q
  · subst hfc
    split at a2 <;> omega
  · rw [if_neg (fun z => hfc z.1)] at a2
    omega
theorem zt_inR {q : Nat} (hf : zt_fk c l e d lo hi q) {x : Nat → Nat} (hx : zt_in lo hi x q) (hr : ¬ x (c q) ≤ l q) : zt_in lo hi x (e (q + 1)) := by
  obtain ⟨f1, f2, f3, f4, f5, f6, f7, f8, f9, f10, f11⟩ := hf
  intro f hf
  have a := hx f hf
  have a1 := f10 f
  have a2 := f11 f
  by_cases hfc : f = c q
  · subst hfc
    split at a1 <;> omega
  · rw [if_neg (fun z => hfc z.1)] at a1
    omega
theorem zt_ex (h : zt_ok s c l e d lo hi) {x : Nat → Nat} : ∀ n q, q < s → e q - q ≤ n → zt_in lo hi x q → ∃ p, q ≤ p ∧ p < e q ∧ c p = 4 ∧ zt_in lo hi x p := by
  intro n
  induction n with
  | zero => intro q hq hn; have := (zt_node h hq).1; exfalso; omega
  | succ n ih =>
    intro q hq hn hx
    have hN := zt_node h hq
    have hs := hN.2.1
    rcases hN.2.2.2.2.2 with hl | hf
    · exact ⟨q, Nat.le_refl q, hN.1, hl.1, hx⟩
    · have hk := hf
      obtain ⟨f1, f2, f3, f4, f5, f6, f7, f8, f9, f10, f11⟩ := hf
      by_cases hr : x (c q) ≤ l q
      · obtain ⟨p, p1, p2, p3, p4⟩ := ih (q + 1) (by omega) (by omega) (zt_inL hk hx hr)
        exact ⟨p, by omega, by omega, p3, p4⟩
      · obtain ⟨p, p1, p2, p3, p4⟩ := ih (e (q + 1)) (by omega) (by omega) (zt_inR hk hx hr)
        exact ⟨p, by omega, by omega, p3, p4⟩
/-- a point in a leaf's box goes the way to that leaf -/
theorem zt_wayL (h : zt_ok s c l e d lo hi) {x : Nat → Nat} {q p : Nat} (hq : q < s) (hc : c q ≠ 4) (h1 : q < p) (h2 : p < e (q + 1)) (hx : zt_in lo hi x p) : x (c q) ≤ l q := by
  have hN := zt_node h hq
  have hs := hN.2.1
  obtain ⟨f1, f2, f3, f4, f5, f6, f7, f8, f9, f10, f11⟩ := zt_fork h hq hc
  have A := (zt_sub h _ (q + 1) p (by omega) (Nat.le_refl _) (by omega) h2 (c q)).2
  have B := f9 (c q)
  have C := hx (c q) f1
  split at B <;> omega
theorem zt_wayR (h : zt_ok s c l e d lo hi) {x : Nat → Nat} {q p : Nat} (hq : q < s) (hc : c q ≠ 4) (h1 : e (q + 1) ≤ p) (h2 : p < e q) (hx : zt_in lo hi x p) : ¬ x (c q) ≤ l q := by
  have hN := zt_node h hq
  have hs := hN.2.1
  obtain ⟨f1, f2, f3, f4, f5, f6, f7, f8, f9, f10, f11⟩ := zt_fork h hq hc
  have A := (zt_sub h _ (e (q + 1)) p (by omega) (Nat.le_refl _) h1 (by omega) (c q)).1
  have B := f10 (c q)
  have C := hx (c q) f1
  split at B <;> omega
theorem zt_un (h : zt_ok s c l e d lo hi) {x : Nat → Nat} : ∀ n q p p', q < s → e q - q ≤ n → q ≤ p → p < e q → q ≤ p' → p' < e q → c p = 4 → c p' = 4 → zt_in lo hi x p → zt_in lo hi x p' → p = p' := by
  intro n
  induction n with
  | zero => intro q p p' hq hn h1 h2; exfalso; omega
  | succ n ih =>
    intro q p p' hq hn h1 h2 h3 h4 cp cp' xp xp'
    have hN := zt_node h hq
    have hs := hN.2.1
    rcases hN.2.2.2.2.2 with hl | hf
    · omega
    · obtain ⟨f1, f2, f3, f4, f5, f6, f7, f8, f9, f10, f11⟩ := hf
      have hc : c q ≠ 4 := by omega
      have n1 : p ≠ q := fun z => by rw [z] at cp; omega
      have n2 : p' ≠ q := fun z => by rw [z] at cp'; omega
      by_cases r1 : p < e (q + 1)
      · have w1 := zt_wayL h hq hc (by omega) r1 xp
        by_cases r2 : p' < e (q + 1)
        · exact ih (q + 1) p p' (by omega) (by omega) (by omega) r1 (by omega) r2 cp cp' xp xp'
        · exact absurd w1 (zt_wayR h hq hc (by omega) h4 xp')
      · have w1 := zt_wayR h hq hc (by omega) h2 xp
        by_cases r2 : p' < e (q + 1)
        · exact absurd (zt_wayL h hq hc (by omega) r2 xp') w1
        · exact ih (e (q + 1)) p p' (by omega) (by omega) (by omega) (by omega) (by omega) (by omega) cp cp' xp xp'
/-- every point has one leaf -/
theorem zt_has (h : zt_ok s c l e d lo hi) {x : Nat → Nat} (hx : ∀ f, f < 4 → x f ≤ 15) : ∃ p, p < s ∧ c p = 4 ∧ zt_in lo hi x p := by
  have h0 : 0 < s := h.1
  obtain ⟨p, p1, p2, p3, p4⟩ := zt_ex h (x := x) _ 0 h0 (Nat.le_refl _) (fun f hf => by
    rw [h.2.2.2.2.1 f, h.2.2.2.2.2.1 f]; exact ⟨Nat.zero_le _, hx f hf⟩)
  rw [h.2.2.1] at p2
  exact ⟨p, p2, p3, p4⟩
theorem zt_one (h : zt_ok s c l e d lo hi) {x : Nat → Nat} {p p' : Nat} (hp : p < s) (hp' : p' < s) (cp : c p = 4) (cp' : c p' = 4) (xp : zt_in lo hi x p) (xp' : zt_in lo hi x p') : p = p' :=
  zt_un h _ 0 p p' h.1 (Nat.le_refl _) (Nat.zero_le _) (by rw [h.2.2.1]; exact hp) (Nat.zero_le _) (by rw [h.2.2.1]; exact hp') cp cp' xp xp'
/-! the number of leaves ahead of p -/
def zt_lb (c : Nat → Nat) : Nat → Nat
  | 0 => 0
  | p + 1 => zt_lb c p + if c p = 4 then 1 else 0
theorem zt_lb_leaf {p : Nat} (h : c p = 4) : zt_lb c (p + 1) = zt_lb c p + 1 := by
  show zt_lb c p + (if c p = 4 then 1 else 0) = _
  rw [if_pos h]
theorem zt_lb_fork {p : Nat} (h : c p ≠ 4) : zt_lb c (p + 1) = zt_lb c p := by
  show zt_lb c p + (if c p = 4 then 1 else 0) = _
  rw [if_neg h]; all_goals rfl
theorem zt_lb_st (p : Nat) : zt_lb c p ≤ zt_lb c (p + 1) := Nat.le_add_right _ _
theorem zt_lb_mono (p : Nat) : ∀ k, zt_lb c p ≤ zt_lb c (p + k) := by
  intro k
  induction k with
  | zero => exact Nat.le_refl _
  | succ k ih => exact Nat.le_trans ih (zt_lb_st (p + k))
theorem zt_lb_le {p q : Nat} (h : p ≤ q) : zt_lb c p ≤ zt_lb c q := by
  have := zt_lb_mono (c := c) p (q - p)
  rwa [show p + (q - p) = q from by omega] at this
theorem zt_lb_lt {p q : Nat} (h : p < q) (hc : c p = 4) : zt_lb c p < zt_lb c q := by
  have := zt_lb_le (c := c) (p := p + 1) (q := q) h
  rw [zt_lb_leaf hc] at this
  omega
theorem zt_lb_inj {p q : Nat} (hp : c p = 4) (hq : c q = 4) (h : zt_lb c p = zt_lb c q) : p = q := by
  rcases Nat.lt_trichotomy p q with a | a | a
  · have := zt_lb_lt a hp; omega
  · exact a
  · have := zt_lb_lt a hq; omega
theorem zt_lb_ex : ∀ n i, i < zt_lb c n → ∃ p, p < n ∧ c p = 4 ∧ zt_lb c p = i := by
  intro n
  induction n with
  | zero => intro i h; exact absurd h (Nat.not_lt_zero _)
  | succ n ih =>
    intro i h
    by_cases hi : i < zt_lb c n
    · obtain ⟨p, a, b⟩ := ih i hi
      exact ⟨p, by omega, b⟩
    · by_cases hc : c n = 4
      · rw [zt_lb_leaf hc] at h
        exact ⟨n, by omega, hc, by omega⟩
      · rw [zt_lb_fork hc] at h
        exact absurd h hi
theorem zt_lb_e (h : zt_ok s c l e d lo hi) : ∀ n q, q < s → e q - q ≤ n → 2 * zt_lb c (e q) + q = 2 * zt_lb c q + e q + 1 := by
  intro n
  induction n with
  | zero => intro q hq hn; have := (zt_node h hq).1; exfalso; omega
  | succ n ih =>
    intro q hq hn
    have hN := zt_node h hq
    have hs := hN.2.1
    rcases hN.2.2.2.2.2 with hl | hf
    · rw [hl.2, zt_lb_leaf hl.1]; omega
    · obtain ⟨f1, f2, f3, f4, f5, f6, f7, f8, f9, f10, f11⟩ := hf
      have a := ih (q + 1) (by omega) (by omega)
      have b := ih (e (q + 1)) (by omega) (by omega)
      rw [f5] at b
      have k := zt_lb_fork (c := c) (p := q) (by omega)
      omega
theorem zt_lb_s (h : zt_ok s c l e d lo hi) : 2 * zt_lb c s = s + 1 := by
  have a := zt_lb_e h _ 0 h.1 (Nat.le_refl _)
  rw [h.2.2.1] at a
  have b : zt_lb c 0 = 0 := rfl
  omega
theorem zt_lb_8 (h : zt_ok s c l e d lo hi) : zt_lb c s ≤ 8 := by
  have := zt_lb_s h
  have := h.2.1
  omega
theorem zt_lb_pos (h : zt_ok s c l e d lo hi) : 1 ≤ zt_lb c s := by
  have := zt_lb_s h
  have := h.1
  omega
theorem zt_dep (h : zt_ok s c l e d lo hi) {p : Nat} (hp : p < s) : d p ≤ 7 ∧ (c p ≠ 4 → d p ≤ 6) := by
  have hN := zt_node h hp
  have h15 := h.2.1
  have h3 := hN.2.2.1
  have h1 := hN.1
  refine ⟨by omega, fun hc => ?_⟩
  obtain ⟨f1, f2, f3, f4, f5, f6, f7, f8, f9, f10, f11⟩ := zt_fork h hp hc
  omega
/-! the number of forks ahead of p that ask about f -/
def zt_ct (c : Nat → Nat) (f : Nat) : Nat → Nat
  | 0 => 0
  | p + 1 => zt_ct c f p + if c p = f then 1 else 0
theorem zt_ct_le (f : Nat) : ∀ n, zt_ct c f n ≤ n := by
  intro n
  induction n with
  | zero => exact Nat.le_refl _
  | succ n ih =>
    show zt_ct c f n + (if c n = f then 1 else 0) ≤ n + 1
    split <;> omega
end

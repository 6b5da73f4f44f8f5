section
/-! rows of the kit, pasted -/
theorem pk_us {f : Nat → Int32} {k : Nat} {x : Int32} : upd f k x k = x := if_pos rfl
theorem pk_un {f : Nat → Int32} {k j : Nat} {x : Int32} (h : j ≠ k) : upd f k x j = f j := if_neg h
theorem pk_sub {a b : Nat} (h : b ≤ a) : nI a - nI b = nI (a - b) := by
  obtain ⟨c, rfl⟩ : ∃ c, a = c + b := ⟨a - b, by omega⟩
  rw [← nI_add, Int32.add_sub_cancel, Nat.add_sub_cancel]
theorem pk_m1 (n : Nat) : nI (n + 1) + (-1) = nI n := by
  rw [← nI_1, Int32.add_assoc, show (1 : Int32) + (-1) = 0 from rfl, Int32.add_zero]
theorem pk_mul (a b : Nat) : nI a * nI b = nI (a * b) := (Int32.ofNat_mul a b).symm
theorem pk_div {a d : Nat} (ha : a < 2 ^ 31) (h0 : 0 < d) (hd : d < 2 ^ 31) : nI a / nI d = nI (a / d) := by
  apply Int32.toInt_inj.mp
  rw [lg_idiv_nonneg (by rw [nI_toInt ha]; omega) (by rw [nI_toInt hd]; omega), nI_toInt ha, nI_toInt hd, nI_toInt (Nat.lt_of_le_of_lt (Nat.div_le_self a d) ha)]
  first | rfl | exact (Int.natCast_ediv _ _).symm
theorem pk_rem {a d : Nat} (ha : a < 2 ^ 31) (h0 : 0 < d) (hd : d < 2 ^ 31) : nI a - nI a / nI d * nI d = nI (a % d) := by
  rw [pk_div ha h0 hd, pk_mul, pk_sub (Nat.div_mul_le_self a d)]
  exact congrArg nI (by have := Nat.div_add_mod' a d; omega)
theorem pk_ix (x : Int32) {n : Nat} (hn : n < 2 ^ 31) : x < 0 ∨ nI n ≤ x ∨ ∃ j : Nat, j < n ∧ x = nI j := by
  by_cases h : x < 0
  · exact Or.inl h
  · obtain ⟨j, hj, rfl⟩ := nI_of h
    by_cases h2 : j < n
    · exact Or.inr (Or.inr ⟨j, h2, rfl⟩)
    · exact Or.inr (Or.inl (nI_le (by omega) hj))
theorem pk_le {x y : Int32} {A B : Prop} (a b : Nat) (f : a ≤ b → A) (g : b < a → B) (hx : x = nI a := by rfl) (hy : y = nI b := by rfl) (ha : a < 2 ^ 31 := by omega) (hb : b < 2 ^ 31 := by omega) : (x ≤ y → A) ∧ (¬ x ≤ y → B) := by
  subst hx hy
  rw [nI_leI ha hb]
  exact ⟨f, fun z => g (by omega)⟩
theorem pk_lt {x y : Int32} {A B : Prop} (a b : Nat) (f : a < b → A) (g : b ≤ a → B) (hx : x = nI a := by rfl) (hy : y = nI b := by rfl) (ha : a < 2 ^ 31 := by omega) (hb : b < 2 ^ 31 := by omega) : (x < y → A) ∧ (¬ x < y → B) := by
  subst hx hy
  rw [nI_ltI ha hb]
  exact ⟨f, fun z => g (by omega)⟩
theorem pk_eq {x y : Int32} {A B : Prop} (a b : Nat) (f : a = b → A) (g : a ≠ b → B) (hx : x = nI a := by rfl) (hy : y = nI b := by rfl) (ha : a < 2 ^ 31 := by omega) (hb : b < 2 ^ 31 := by omega) : (x = y → A) ∧ (¬ x = y → B) := by
  subst hx hy
  rw [nI_eq ha hb]
  exact ⟨f, g⟩
theorem pk_in {x : Int32} (n N : Nat) (h : n < N) (hx : x = nI n := by rfl) (hN : N < 2 ^ 31 := by omega) : vp_in x N := by
  subst hx
  exact vp_in_nI h hN
theorem pk_cl {x : Int32} (n : Nat) (hx : x = nI n := by rfl) (h : n < 2 ^ 31 := by omega) : x.toNatClampNeg = n := by
  subst hx
  exact nI_clamp h
theorem pk_tn {n : Nat} (h : n < 2 ^ 32) : (nI n).toBitVec.toNat = n := Nat.mod_eq_of_lt h
theorem pk_and (x : Int32) {m : Int32} (k : Nat) (hm : m.toBitVec.toNat = 2 ^ k - 1) : x &&& m = nI (x.toBitVec.toNat % 2 ^ k) := by
  apply Int32.toBitVec_inj.mp
  apply BitVec.eq_of_toNat_eq
  rw [Int32.toBitVec_and, BitVec.toNat_and, hm, Nat.and_two_pow_sub_one_eq_mod]
  show _ = (BitVec.ofNat 32 _).toNat
  rw [BitVec.toNat_ofNat]
  exact (Nat.mod_eq_of_lt (Nat.lt_of_le_of_lt (Nat.mod_le _ _) x.toBitVec.isLt)).symm
theorem pk_andN {n : Nat} (h : n < 2 ^ 32) {m : Int32} (k : Nat) (hm : m.toBitVec.toNat = 2 ^ k - 1) : nI n &&& m = nI (n % 2 ^ k) := by
  rw [pk_and _ k hm, pk_tn h]
theorem pk_shl (a s : Int32) (k : Nat) (hs : (s.toBitVec.smod 32).toNat = k) : (a <<< s).toBitVec.toNat = a.toBitVec.toNat * 2 ^ k % 2 ^ 32 := by
  show (a.toBitVec <<< (s.toBitVec.smod 32).toNat).toNat = _
  rw [hs, BitVec.toNat_shiftLeft, Nat.shiftLeft_eq]
theorem pk_shlN {n : Nat} (s : Int32) (k : Nat) (hs : (s.toBitVec.smod 32).toNat = k) (h : n * 2 ^ k < 2 ^ 32) : nI n <<< s = nI (n * 2 ^ k) := by
  apply Int32.toBitVec_inj.mp
  apply BitVec.eq_of_toNat_eq
  have hn : n < 2 ^ 32 := Nat.lt_of_le_of_lt (Nat.le_mul_of_pos_right n (Nat.two_pow_pos k)) h
  rw [pk_shl _ _ k hs, pk_tn hn, pk_tn h, Nat.mod_eq_of_lt h]
theorem pk_shr (a s : Int32) (k : Nat) (hs : (s.toBitVec.smod 32).toNat = k) : (a >>> s).toInt = a.toInt >>> k := by
  show (a.toBitVec.sshiftRight (s.toBitVec.smod 32).toNat).toInt = _
  rw [hs, BitVec.toInt_sshiftRight]
  rfl
theorem pk_shrN {n : Nat} (h : n < 2 ^ 31) (s : Int32) (k : Nat) (hs : (s.toBitVec.smod 32).toNat = k) : nI n >>> s = nI (n / 2 ^ k) := by
  apply Int32.toInt_inj.mp
  have h2 : n / 2 ^ k ≤ n := Nat.div_le_self _ _
  rw [pk_shr _ _ k hs, nI_toInt h, nI_toInt (by omega), Int.shiftRight_eq_div_pow]
  rfl
theorem pk_loop {σ : Type} (W : Nat → Nat → σ → Prop) (I : Nat → σ → Prop) (e i0 : Nat) (s : σ) (hi : i0 ≤ e) (h0 : I i0 s) (hx : ∀ n s, I e s → W (n + 1) e s)
    (hs : ∀ n i s, i < e → I i s → (∀ s', I (i + 1) s' → W n (i + 1) s') → W (n + 1) i s) : ∃ n, W n i0 s :=
  ⟨e + 1, loop_i W I e hx hs (e + 1) i0 s hi (by omega) h0⟩
theorem pk_loopD {σ : Type} (W : Nat → Nat → σ → Prop) (I : Nat → σ → Prop) (hx : ∀ n s, I 0 s → W (n + 1) 0 s)
    (hs : ∀ n i s, I (i + 1) s → (∀ s', I i s' → W n i s') → W (n + 1) (i + 1) s) : ∀ (e : Nat) (s : σ), I e s → W (e + 1) e s := by
  intro e
  induction e with
  | zero => exact fun s h => hx 0 s h
  | succ e ih => exact fun s h => hs (e + 1) e s h (fun s' h' => ih s' h')
theorem s_l : ∀ n, n < 32 → ((nI n &&& 31).toBitVec.smod 32).toNat = n := by decide +kernel
end
section
/-! trees in preorder: s nodes; c p = 4 a leaf, c p < 4 a fork that asks about feature c p with limit l p; e p the end of the part that begins at p; d p its depth; lo p f, hi p f its box -/
section
variable {s : Nat} {c l e d : Nat → Nat} {lo hi : Nat → Nat → Nat}
def zt_fk (c l e d : Nat → Nat) (lo hi : Nat → Nat → Nat) (p : Nat) : Prop :=
  c p < 4 ∧ l p ≤ 15 ∧ p + 1 < e (p + 1) ∧ e (p + 1) < e p ∧ e (e (p + 1)) = e p ∧ d (p + 1) = d p + 1 ∧ d (e (p + 1)) = d p + 1 ∧
  (∀ f, lo (p + 1) f = lo p f) ∧ (∀ f, hi (p + 1) f = if f = c p ∧ l p < hi p f then l p else hi p f) ∧
  (∀ f, lo (e (p + 1)) f = if f = c p ∧ lo p f < l p + 1 then l p + 1 else lo p f) ∧ (∀ f, hi (e (p + 1)) f = hi p f)
def zt_nd (s : Nat) (c l e d : Nat → Nat) (lo hi : Nat → Nat → Nat) (p : Nat) : Prop :=
  p < e p ∧ e p ≤ s ∧ 2 * d p + e p ≤ s + p ∧ (∀ f, lo p f ≤ 16) ∧ (∀ f, hi p f ≤ 15) ∧ ((c p = 4 ∧ e p = p + 1) ∨ zt_fk c l e d lo hi p)
def zt_ok (s : Nat) (c l e d : Nat → Nat) (lo hi : Nat → Nat → Nat) : Prop :=
  1 ≤ s ∧ s ≤ 15 ∧ e 0 = s ∧ d 0 = 0 ∧ (∀ f, lo 0 f = 0) ∧ (∀ f, hi 0 f = 15) ∧ ∀ p, p < s → zt_nd s c l e d lo hi p
theorem zt_node (h : zt_ok s c l e d lo hi) {p : Nat} (hp : p < s) : zt_nd s c l e d lo hi p := h.2.2.2.2.2.2 p hp
theorem zt_leaf (h : zt_ok s c l e d lo hi) {p : Nat} (hp : p < s) (hc : c p = 4) : e p = p + 1 := by
  rcases (zt_node h hp).2.2.2.2.2 with a | a
  · exact a.2
  · have := a.1; omega
theorem zt_fork (h : zt_ok s c l e d lo hi) {p : Nat} (hp : p < s) (hc : c p ≠ 4) : zt_fk c l e d lo hi p := by
  rcases (zt_node h hp).2.2.2.2.2 with a | a
  · exact absurd a.1 hc
  · exact a
theorem zt_c4 (h : zt_ok s c l e d lo hi) {p : Nat} (hp : p < s) (hc : c p ≠ 4) : c p < 4 := (zt_fork h hp hc).1
/-- a part's boxes lie within its own -/
theorem zt_sub (h : zt_ok s c l e d lo hi) : ∀ n q p, q < s → e q - q ≤ n → q ≤ p → p < e q → ∀ f, lo q f ≤ lo p f ∧ hi p f ≤ hi q f := by
  intro n
  induction n with
  | zero => intro q p hq hn h1 h2 f; exfalso; omega
  | succ n ih =>
    intro q p hq hn h1 h2 f
    by_cases hpq : p = q
    · subst hpq; exact ⟨Nat.le_refl _, Nat.le_refl _⟩
    · have hN := zt_node h hq
      have hs := hN.2.1
      rcases hN.2.2.2.2.2 with hl | hf
      · exfalso; omega
      · obtain ⟨f1, f2, f3, f4, f5, f6, f7, f8, f9, f10, f11⟩ := hf
        by_cases hr : p < e (q + 1)
        · have := ih (q + 1) p (by omega) (by omega) (by omega) hr f
          have a1 := f8 f
          have a2 := f9 f
          split at a2 <;> omega
        · have := ih (e (q + 1)) p (by omega) (by omega) (by omega) (by omega) f
          have a1 := f10 f
          have a2 := f11 f
          split at a1 <;> omega
def zt_in (lo hi : Nat → Nat → Nat) (x : Nat → Nat) (p : Nat) : Prop := ∀ f, f < 4 → lo p f ≤ x f ∧ x f ≤ hi p f
/-- where a point goes at a fork -/
theorem zt_inL {q : Nat} (hf : zt_fk c l e d lo hi q) {x : Nat → Nat} (hx : zt_in lo hi x q) (hr : x (c q) ≤ l q) : zt_in lo hi x (q + 1) := by
  obtain ⟨f1, f2, f3, f4, f5, f6, f7, f8, f9, f10, f11⟩ := hf
  intro f hf
  have a := hx f hf
  have a1 := f8 f
  have a2 := f9 f
  by_cases hfc : f = c q
  · subst hfc
    split at a2 <;> omega
  · rw [if_neg (fun z => hfc z.1)] at a2
    omega
theorem zt_inR {q : Nat} (hf : zt_fk c l e d lo hi q) {x : Nat → Nat} (hx : zt_in lo hi x q) (hr : ¬ x (c q) ≤ l q) : zt_in lo hi x (e (q + 1)) := by
  obtain ⟨f1, f2, f3, f4, f5, f6, f7, f8, f9, f10, f11⟩ := hf
  intro f hf
  have a := hx f hf
  have a1 := f10 f
  have a2 := f11 f
  by_cases hfc : f = c q
  · subst hfc
    split at a1 <;> omega
  · rw [if_neg (fun z => hfc z.1)] at a1
    omega
theorem zt_ex (h : zt_ok s c l e d lo hi) {x : Nat → Nat} : ∀ n q, q < s → e q - q ≤ n → zt_in lo hi x q → ∃ p, q ≤ p ∧ p < e q ∧ c p = 4 ∧ zt_in lo hi x p := by
  intro n
  induction n with
  | zero => intro q hq hn; have := (zt_node h hq).1; exfalso; omega
  | succ n ih =>
    intro q hq hn hx
    have hN := zt_node h hq
    have hs := hN.2.1
    rcases hN.2.2.2.2.2 with hl | hf
    · exact ⟨q, Nat.le_refl q, hN.1, hl.1, hx⟩
    · have hk := hf
      obtain ⟨f1, f2, f3, f4, f5, f6, f7, f8, f9, f10, f11⟩ := hf
      by_cases hr : x (c q) ≤ l q
      · obtain ⟨p, p1, p2, p3, p4⟩ := ih (q + 1) (by omega) (by omega) (zt_inL hk hx hr)
        exact ⟨p, by omega, by omega, p3, p4⟩
      · obtain ⟨p, p1, p2, p3, p4⟩ := ih (e (q + 1)) (by omega) (by omega) (zt_inR hk hx hr)
        exact ⟨p, by omega, by omega, p3, p4⟩
/-- a point in a leaf's box goes the way to that leaf -/
theorem zt_wayL (h : zt_ok s c l e d lo hi) {x : Nat → Nat} {q p : Nat} (hq : q < s) (hc : c q ≠ 4) (h1 : q < p) (h2 : p < e (q + 1)) (hx : zt_in lo hi x p) : x (c q) ≤ l q := by
  have hN := zt_node h hq
  have hs := hN.2.1
  obtain ⟨f1, f2, f3, f4, f5, f6, f7, f8, f9, f10, f11⟩ := zt_fork h hq hc
  have A := (zt_sub h _ (q + 1) p (by omega) (Nat.le_refl _) (by omega) h2 (c q)).2
  have B := f9 (c q)
  have C := hx (c q) f1
  split at B <;> omega
theorem zt_wayR (h : zt_ok s c l e d lo hi) {x : Nat → Nat} {q p : Nat} (hq : q < s) (hc : c q ≠ 4) (h1 : e (q + 1) ≤ p) (h2 : p < e q) (hx : zt_in lo hi x p) : ¬ x (c q) ≤ l q := by
  have hN := zt_node h hq
  have hs := hN.2.1
  obtain ⟨f1, f2, f3, f4, f5, f6, f7, f8, f9, f10, f11⟩ := zt_fork h hq hc
  have A := (zt_sub h _ (e (q + 1)) p (by omega) (Nat.le_refl _) h1 (by omega) (c q)).1
  have B := f10 (c q)
  have C := hx (c q) f1
  split at B <;> omega
theorem zt_un (h : zt_ok s c l e d lo hi) {x : Nat → Nat} : ∀ n q p p', q < s → e q - q ≤ n → q ≤ p → p < e q → q ≤ p' → p' < e q → c p = 4 → c p' = 4 → zt_in lo hi x p → zt_in lo hi x p' → p = p' := by
  intro n
  induction n with
  | zero => intro q p p' hq hn h1 h2; exfalso; omega
  | succ n ih =>
    intro q p p' hq hn h1 h2 h3 h4 cp cp' xp xp'
    have hN := zt_node h hq
    have hs := hN.2.1
    rcases hN.2.2.2.2.2 with hl | hf
    · omega
    · obtain ⟨f1, f2, f3, f4, f5, f6, f7, f8, f9, f10, f11⟩ := hf
      have hc : c q ≠ 4 := by omega
      have n1 : p ≠ q := fun z => by rw [z] at cp; omega
      have n2 : p' ≠ q := fun z => by rw [z] at cp'; omega
      by_cases r1 : p < e (q + 1)
      · have w1 := zt_wayL h hq hc (by omega) r1 xp
        by_cases r2 : p' < e (q + 1)
        · exact ih (q + 1) p p' (by omega) (by omega) (by omega) r1 (by omega) r2 cp cp' xp xp'
        · exact absurd w1 (zt_wayR h hq hc (by omega) h4 xp')
      · have w1 := zt_wayR h hq hc (by omega) h2 xp
        by_cases r2 : p' < e (q + 1)
        · exact absurd (zt_wayL h hq hc (by omega) r2 xp') w1
        · exact ih (e (q + 1)) p p' (by omega) (by omega) (by omega) (by omega) (by omega) (by omega) cp cp' xp xp'
/-- every point has one leaf -/
theorem zt_has (h : zt_ok s c l e d lo hi) {x : Nat → Nat} (hx : ∀ f, f < 4 → x f ≤ 15) : ∃ p, p < s ∧ c p = 4 ∧ zt_in lo hi x p := by
  have h0 : 0 < s := h.1
  obtain ⟨p, p1, p2, p3, p4⟩ := zt_ex h (x := x) _ 0 h0 (Nat.le_refl _) (fun f hf => by
    rw [h.2.2.2.2.1 f, h.2.2.2.2.2.1 f]; exact ⟨Nat.zero_le _, hx f hf⟩)
  rw [h.2.2.1] at p2
  exact ⟨p, p2, p3, p4⟩
theorem zt_one (h : zt_ok s c l e d lo hi) {x : Nat → Nat} {p p' : Nat} (hp : p < s) (hp' : p' < s) (cp : c p = 4) (cp' : c p' = 4) (xp : zt_in lo hi x p) (xp' : zt_in lo hi x p') : p = p' :=
  zt_un h _ 0 p p' h.1 (Nat.le_refl _) (Nat.zero_le _) (by rw [h.2.2.1]; exact hp) (Nat.zero_le _) (by rw [h.2.2.1]; exact hp') cp cp' xp xp'
/-! the number of leaves ahead of p -/
def zt_lb (c : Nat → Nat) : Nat → Nat
  | 0 => 0
  | p + 1 => zt_lb c p + if c p = 4 then 1 else 0
theorem zt_lb_leaf {p : Nat} (h : c p = 4) : zt_lb c (p + 1) = zt_lb c p + 1 := by
  show zt_lb c p + (if c p = 4 then 1 else 0) = _
  rw [if_pos h]
theorem zt_lb_fork {p : Nat} (h : c p ≠ 4) : zt_lb c (p + 1) = zt_lb c p := by
  show zt_lb c p + (if c p = 4 then 1 else 0) = _
  rw [if_neg h]; all_goals rfl
theorem zt_lb_st (p : Nat) : zt_lb c p ≤ zt_lb c (p + 1) := Nat.le_add_right _ _
theorem zt_lb_mono (p : Nat) : ∀ k, zt_lb c p ≤ zt_lb c (p + k) := by
  intro k
  induction k with
  | zero => exact Nat.le_refl _
  | succ k ih => exact Nat.le_trans ih (zt_lb_st (p + k))
theorem zt_lb_le {p q : Nat} (h : p ≤ q) : zt_lb c p ≤ zt_lb c q := by
  have := zt_lb_mono (c := c) p (q - p)
  rwa [show p + (q - p) = q from by omega] at this
theorem zt_lb_lt {p q : Nat} (h : p < q) (hc : c p = 4) : zt_lb c p < zt_lb c q := by
  have := zt_lb_le (c := c) (p := p + 1) (q := q) h
  rw [zt_lb_leaf hc] at this
  omega
theorem zt_lb_inj {p q : Nat} (hp : c p = 4) (hq : c q = 4) (h : zt_lb c p = zt_lb c q) : p = q := by
  rcases Nat.lt_trichotomy p q with a | a | a
  · have := zt_lb_lt a hp; omega
  · exact a
  · have := zt_lb_lt a hq; omega
theorem zt_lb_ex : ∀ n i, i < zt_lb c n → ∃ p, p < n ∧ c p = 4 ∧ zt_lb c p = i := by
  intro n
  induction n with
  | zero => intro i h; exact absurd h (Nat.not_lt_zero _)
  | succ n ih =>
    intro i h
    by_cases hi : i < zt_lb c n
    · obtain ⟨p, a, b⟩ := ih i hi
      exact ⟨p, by omega, b⟩
    · by_cases hc : c n = 4
      · rw [zt_lb_leaf hc] at h
        exact ⟨n, by omega, hc, by omega⟩
      · rw [zt_lb_fork hc] at h
        exact absurd h hi
theorem zt_lb_e (h : zt_ok s c l e d lo hi) : ∀ n q, q < s → e q - q ≤ n → 2 * zt_lb c (e q) + q = 2 * zt_lb c q + e q + 1 := by
  intro n
  induction n with
  | zero => intro q hq hn; have := (zt_node h hq).1; exfalso; omega
  | succ n ih =>
    intro q hq hn
    have hN := zt_node h hq
    have hs := hN.2.1
    rcases hN.2.2.2.2.2 with hl | hf
    · rw [hl.2, zt_lb_leaf hl.1]; omega
    · obtain ⟨f1, f2, f3, f4, f5, f6, f7, f8, f9, f10, f11⟩ := hf
      have a := ih (q + 1) (by omega) (by omega)
      have b := ih (e (q + 1)) (by omega) (by omega)
      rw [f5] at b
      have k := zt_lb_fork (c := c) (p := q) (by omega)
      omega
theorem zt_lb_s (h : zt_ok s c l e d lo hi) : 2 * zt_lb c s = s + 1 := by
  have a := zt_lb_e h _ 0 h.1 (Nat.le_refl _)
  rw [h.2.2.1] at a
  have b : zt_lb c 0 = 0 := rfl
  omega
theorem zt_lb_8 (h : zt_ok s c l e d lo hi) : zt_lb c s ≤ 8 := by
  have := zt_lb_s h
  have := h.2.1
  omega
theorem zt_lb_pos (h : zt_ok s c l e d lo hi) : 1 ≤ zt_lb c s := by
  have := zt_lb_s h
  have := h.1
  omega
theorem zt_dep (h : zt_ok s c l e d lo hi) {p : Nat} (hp : p < s) : d p ≤ 7 ∧ (c p ≠ 4 → d p ≤ 6) := by
  have hN := zt_node h hp
  have h15 := h.2.1
  have h3 := hN.2.2.1
  have h1 := hN.1
  refine ⟨by omega, fun hc => ?_⟩
  obtain ⟨f1, f2, f3, f4, f5, f6, f7, f8, f9, f10, f11⟩ := zt_fork h hp hc
  omega
/-! the number of forks ahead of p that ask about f -/
def zt_ct (c : Nat → Nat) (f : Nat) : Nat → Nat
  | 0 => 0
  | p + 1 => zt_ct c f p + if c p = f then 1 else 0
theorem zt_ct_le (f : Nat) : ∀ n, zt_ct c f n ≤ n := by
  intro n
  induction n with
  | zero => exact Nat.le_refl _
  | succ n ih =>
    show zt_ct c f n + (if c n = f then 1 else 0) ≤ n + 1
    split <;> omega
end
end
section
/-! a fork in place of the leaf at p0: the parts behind it move up by two -/
section
variable {s : Nat} {c l e d : Nat → Nat} {lo hi : Nat → Nat → Nat} {p0 F L : Nat}
def zt_c (c : Nat → Nat) (p0 F : Nat) (q : Nat) : Nat := if q < p0 then c q else if q = p0 then F else if q ≤ p0 + 2 then 4 else c (q - 2)
def zt_l (l : Nat → Nat) (p0 L : Nat) (q : Nat) : Nat := if q < p0 then l q else if q = p0 then L else l (q - 2)
def zt_e (e : Nat → Nat) (p0 : Nat) (q : Nat) : Nat := if q ≤ p0 then (if e q ≤ p0 then e q else e q + 2) else if q ≤ p0 + 2 then q + 1 else e (q - 2) + 2
def zt_d (d : Nat → Nat) (p0 : Nat) (q : Nat) : Nat := if q ≤ p0 then d q else if q ≤ p0 + 2 then d p0 + 1 else d (q - 2)
def zt_lo (lo : Nat → Nat → Nat) (p0 F L : Nat) (q f : Nat) : Nat := if q ≤ p0 then lo q f else if q = p0 + 1 then lo p0 f else if q = p0 + 2 then (if f = F ∧ lo p0 f < L + 1 then L + 1 else lo p0 f) else lo (q - 2) f
def zt_hi (hi : Nat → Nat → Nat) (p0 F L : Nat) (q f : Nat) : Nat := if q ≤ p0 then hi q f else if q = p0 + 1 then (if f = F ∧ L < hi p0 f then L else hi p0 f) else if q = p0 + 2 then hi p0 f else hi (q - 2) f
theorem zt_c_lt {q : Nat} (h : q < p0) : zt_c c p0 F q = c q := by unfold zt_c; rw [if_pos h]
theorem zt_c_at : zt_c c p0 F p0 = F := by unfold zt_c; rw [if_neg (by omega), if_pos rfl]
theorem zt_c_12 {q : Nat} (h : p0 < q) (h2 : q ≤ p0 + 2) : zt_c c p0 F q = 4 := by unfold zt_c; rw [if_neg (by omega), if_neg (by omega), if_pos h2]
theorem zt_c_gt {x : Nat} (h : p0 < x) : zt_c c p0 F (x + 2) = c x := by unfold zt_c; rw [if_neg (by omega), if_neg (by omega), if_neg (by omega)]; all_goals rfl
theorem zt_l_lt {q : Nat} (h : q < p0) : zt_l l p0 L q = l q := by unfold zt_l; rw [if_pos h]
theorem zt_l_at : zt_l l p0 L p0 = L := by unfold zt_l; rw [if_neg (by omega), if_pos rfl]
theorem zt_l_gt {x : Nat} (h : p0 < x) : zt_l l p0 L (x + 2) = l x := by unfold zt_l; rw [if_neg (by omega), if_neg (by omega)]; all_goals rfl
theorem zt_e_a {q : Nat} (h : q ≤ p0) (h2 : e q ≤ p0) : zt_e e p0 q = e q := by unfold zt_e; rw [if_pos h, if_pos h2]
theorem zt_e_b {q : Nat} (h : q ≤ p0) (h2 : p0 < e q) : zt_e e p0 q = e q + 2 := by unfold zt_e; rw [if_pos h, if_neg (by omega)]
theorem zt_e_12 {q : Nat} (h : p0 < q) (h2 : q ≤ p0 + 2) : zt_e e p0 q = q + 1 := by unfold zt_e; rw [if_neg (by omega), if_pos h2]
theorem zt_e_gt {x : Nat} (h : p0 < x) : zt_e e p0 (x + 2) = e x + 2 := by unfold zt_e; rw [if_neg (by omega), if_neg (by omega)]; all_goals rfl
theorem zt_d_le {q : Nat} (h : q ≤ p0) : zt_d d p0 q = d q := by unfold zt_d; rw [if_pos h]
theorem zt_d_12 {q : Nat} (h : p0 < q) (h2 : q ≤ p0 + 2) : zt_d d p0 q = d p0 + 1 := by unfold zt_d; rw [if_neg (by omega), if_pos h2]
theorem zt_d_gt {x : Nat} (h : p0 < x) : zt_d d p0 (x + 2) = d x := by unfold zt_d; rw [if_neg (by omega), if_neg (by omega)]; all_goals rfl
theorem zt_lo_le {q : Nat} (h : q ≤ p0) (f : Nat) : zt_lo lo p0 F L q f = lo q f := by unfold zt_lo; rw [if_pos h]
theorem zt_lo_1 (f : Nat) : zt_lo lo p0 F L (p0 + 1) f = lo p0 f := by unfold zt_lo; rw [if_neg (by omega), if_pos rfl]
theorem zt_lo_2 (f : Nat) : zt_lo lo p0 F L (p0 + 2) f = if f = F ∧ lo p0 f < L + 1 then L + 1 else lo p0 f := by
  unfold zt_lo
  rw [if_neg (show ¬ p0 + 2 ≤ p0 by omega), if_neg (show ¬ p0 + 2 = p0 + 1 by omega), if_pos (show p0 + 2 = p0 + 2 from rfl)]
theorem zt_lo_gt {x : Nat} (h : p0 < x) (f : Nat) : zt_lo lo p0 F L (x + 2) f = lo x f := by
  unfold zt_lo
  rw [if_neg (show ¬ x + 2 ≤ p0 by omega), if_neg (show ¬ x + 2 = p0 + 1 by omega), if_neg (show ¬ x + 2 = p0 + 2 by omega)]; all_goals rfl
theorem zt_hi_le {q : Nat} (h : q ≤ p0) (f : Nat) : zt_hi hi p0 F L q f = hi q f := by unfold zt_hi; rw [if_pos h]
theorem zt_hi_1 (f : Nat) : zt_hi hi p0 F L (p0 + 1) f = if f = F ∧ L < hi p0 f then L else hi p0 f := by
  unfold zt_hi
  rw [if_neg (show ¬ p0 + 1 ≤ p0 by omega), if_pos (show p0 + 1 = p0 + 1 from rfl)]
theorem zt_hi_2 (f : Nat) : zt_hi hi p0 F L (p0 + 2) f = hi p0 f := by
  unfold zt_hi
  rw [if_neg (show ¬ p0 + 2 ≤ p0 by omega), if_neg (show ¬ p0 + 2 = p0 + 1 by omega), if_pos (show p0 + 2 = p0 + 2 from rfl)]
theorem zt_hi_gt {x : Nat} (h : p0 < x) (f : Nat) : zt_hi hi p0 F L (x + 2) f = hi x f := by
  unfold zt_hi
  rw [if_neg (show ¬ x + 2 ≤ p0 by omega), if_neg (show ¬ x + 2 = p0 + 1 by omega), if_neg (show ¬ x + 2 = p0 + 2 by omega)]; all_goals rfl
theorem zt_fk_mv {c' l' e' d' : Nat → Nat} {lo' hi' : Nat → Nat → Nat} {x q b : Nat} (hf : zt_fk c l e d lo hi x) (hc : c' q = c x) (hl : l' q = l x) (h1 : e' (q + 1) = b) (h2 : q + 1 < b) (h3 : b < e' q) (h4 : e' b = e' q)
    (hd : d' q = d x) (hd1 : d' (q + 1) = d (x + 1)) (hd2 : d' b = d (e (x + 1)))
    (lo0 : ∀ f, lo' q f = lo x f) (lo1 : ∀ f, lo' (q + 1) f = lo (x + 1) f) (lo2 : ∀ f, lo' b f = lo (e (x + 1)) f)
    (hi0 : ∀ f, hi' q f = hi x f) (hi1 : ∀ f, hi' (q + 1) f = hi (x + 1) f) (hi2 : ∀ f, hi' b f = hi (e (x + 1)) f) : zt_fk c' l' e' d' lo' hi' q := by
  obtain ⟨f1, f2, f3, f4, f5, f6, f7, f8, f9, f10, f11⟩ := hf
  subst h1
  exact ⟨by rw [hc]; exact f1, by rw [hl]; exact f2, h2, h3, h4, by rw [hd1, hd, f6], by rw [hd2, hd, f7], fun f => by rw [lo1, lo0, f8], fun f => by rw [hi1, hi0, hc, hl, f9], fun f => by rw [lo2, lo0, hc, hl, f10], fun f => by rw [hi2, hi0, f11]⟩
/-- an old node ahead of p0 -/
theorem zt_sp_lt (h : zt_ok s c l e d lo hi) (hp : p0 < s) (hc : c p0 = 4) {q : Nat} (hq : q < p0) :
    zt_nd (s + 2) (zt_c c p0 F) (zt_l l p0 L) (zt_e e p0) (zt_d d p0) (zt_lo lo p0 F L) (zt_hi hi p0 F L) q := by
  have hN := zt_node h (p := q) (by omega)
  obtain ⟨n1, n2, n3, n4, n5, n6⟩ := hN
  have hE : zt_e e p0 q = e q ∨ zt_e e p0 q = e q + 2 := by
    by_cases z : e q ≤ p0
    · exact Or.inl (zt_e_a (by omega) z)
    · exact Or.inr (zt_e_b (by omega) (by omega))
  refine ⟨by omega, by omega, by rw [zt_d_le (by omega)]; omega, fun f => by rw [zt_lo_le (by omega)]; exact n4 f, fun f => by rw [zt_hi_le (by omega)]; exact n5 f, ?_⟩
  rcases n6 with hl | hf
  · refine Or.inl ⟨by rw [zt_c_lt hq]; exact hl.1, ?_⟩
    rw [zt_e_a (by omega) (by omega)]; exact hl.2
  · have hk := hf
    obtain ⟨f1, f2, f3, f4, f5, f6, f7, f8, f9, f10, f11⟩ := hf
    refine Or.inr ?_
    by_cases z : e (q + 1) ≤ p0
    · have E1 : zt_e e p0 (q + 1) = e (q + 1) := zt_e_a (by omega) z
      have E2 : zt_e e p0 (e (q + 1)) = zt_e e p0 q := by
        by_cases y : e q ≤ p0
        · rw [zt_e_a z (by omega), zt_e_a (by omega) y, f5]
        · rw [zt_e_b z (by omega), zt_e_b (by omega) (by omega), f5]
      exact zt_fk_mv hk (zt_c_lt hq) (zt_l_lt hq) E1 f3 (by omega) E2 (zt_d_le (by omega)) (zt_d_le (by omega)) (zt_d_le z)
        (zt_lo_le (by omega)) (zt_lo_le (by omega)) (zt_lo_le z) (zt_hi_le (by omega)) (zt_hi_le (by omega)) (zt_hi_le z)
    · have E1 : zt_e e p0 (q + 1) = e (q + 1) + 2 := zt_e_b (by omega) (by omega)
      have E0 : zt_e e p0 q = e q + 2 := zt_e_b (by omega) (by omega)
      have E2 : zt_e e p0 (e (q + 1) + 2) = zt_e e p0 q := by rw [zt_e_gt (by omega), E0, f5]
      exact zt_fk_mv hk (zt_c_lt hq) (zt_l_lt hq) E1 (by omega) (by omega) E2 (zt_d_le (by omega)) (zt_d_le (by omega)) (zt_d_gt (by omega))
        (zt_lo_le (by omega)) (zt_lo_le (by omega)) (zt_lo_gt (by omega)) (zt_hi_le (by omega)) (zt_hi_le (by omega)) (zt_hi_gt (by omega))
/-- an old node behind p0 -/
theorem zt_sp_gt (h : zt_ok s c l e d lo hi) (hp : p0 < s) (hc : c p0 = 4) {q : Nat} (hq : p0 < q) (hqs : q < s) :
    zt_nd (s + 2) (zt_c c p0 F) (zt_l l p0 L) (zt_e e p0) (zt_d d p0) (zt_lo lo p0 F L) (zt_hi hi p0 F L) (q + 2) := by
  have hN := zt_node h hqs
  obtain ⟨n1, n2, n3, n4, n5, n6⟩ := hN
  have hE : zt_e e p0 (q + 2) = e q + 2 := zt_e_gt hq
  refine ⟨by omega, by omega, by rw [zt_d_gt hq]; omega, fun f => by rw [zt_lo_gt hq]; exact n4 f, fun f => by rw [zt_hi_gt hq]; exact n5 f, ?_⟩
  rcases n6 with hl | hf
  · refine Or.inl ⟨by rw [zt_c_gt hq]; exact hl.1, by omega⟩
  · have hk := hf
    obtain ⟨f1, f2, f3, f4, f5, f6, f7, f8, f9, f10, f11⟩ := hf
    have E1 : zt_e e p0 (q + 1 + 2) = e (q + 1) + 2 := zt_e_gt (by omega)
    have E2 : zt_e e p0 (e (q + 1) + 2) = zt_e e p0 (q + 2) := by rw [zt_e_gt (by omega), hE, f5]
    exact Or.inr (zt_fk_mv hk (zt_c_gt hq) (zt_l_gt hq) E1 (by omega) (by omega) E2 (zt_d_gt hq) (zt_d_gt (x := q + 1) (by omega)) (zt_d_gt (by omega))
        (zt_lo_gt hq) (zt_lo_gt (x := q + 1) (by omega)) (zt_lo_gt (by omega)) (zt_hi_gt hq) (zt_hi_gt (x := q + 1) (by omega)) (zt_hi_gt (by omega)))
/-- the new fork and its two leaves -/
theorem zt_sp_at (h : zt_ok s c l e d lo hi) (hp : p0 < s) (hc : c p0 = 4) (hF : F < 4) (hL : L ≤ 15) :
    zt_nd (s + 2) (zt_c c p0 F) (zt_l l p0 L) (zt_e e p0) (zt_d d p0) (zt_lo lo p0 F L) (zt_hi hi p0 F L) p0 := by
  obtain ⟨n1, n2, n3, n4, n5, n6⟩ := zt_node h hp
  have e0 := zt_leaf h hp hc
  have E0 : zt_e e p0 p0 = p0 + 3 := by rw [zt_e_b (Nat.le_refl _) (by omega), e0]
  have E1 : zt_e e p0 (p0 + 1) = p0 + 2 := zt_e_12 (by omega) (by omega)
  have E2 : zt_e e p0 (p0 + 2) = p0 + 3 := zt_e_12 (by omega) (by omega)
  have D0 : zt_d d p0 p0 = d p0 := zt_d_le (Nat.le_refl _)
  refine ⟨by omega, by omega, by omega, fun f => by rw [zt_lo_le (Nat.le_refl _)]; exact n4 f, fun f => by rw [zt_hi_le (Nat.le_refl _)]; exact n5 f, Or.inr ?_⟩
  unfold zt_fk
  rw [E1, E2, E0, D0, zt_c_at, zt_l_at]
  exact ⟨hF, hL, by omega, by omega, rfl, zt_d_12 (by omega) (by omega), zt_d_12 (by omega) (by omega), fun f => by rw [zt_lo_1, zt_lo_le (Nat.le_refl _)],
    fun f => by rw [zt_hi_1, zt_hi_le (Nat.le_refl _)], fun f => by rw [zt_lo_2, zt_lo_le (Nat.le_refl _)], fun f => by rw [zt_hi_2, zt_hi_le (Nat.le_refl _)]⟩
theorem zt_sp_1 (h : zt_ok s c l e d lo hi) (hp : p0 < s) (hc : c p0 = 4) (hF : F < 4) (hL : L ≤ 15) :
    zt_nd (s + 2) (zt_c c p0 F) (zt_l l p0 L) (zt_e e p0) (zt_d d p0) (zt_lo lo p0 F L) (zt_hi hi p0 F L) (p0 + 1) := by
  obtain ⟨n1, n2, n3, n4, n5, n6⟩ := zt_node h hp
  have e0 := zt_leaf h hp hc
  have E1 : zt_e e p0 (p0 + 1) = p0 + 2 := zt_e_12 (by omega) (by omega)
  have D1 : zt_d d p0 (p0 + 1) = d p0 + 1 := zt_d_12 (by omega) (by omega)
  refine ⟨by omega, by omega, by omega, fun f => by rw [zt_lo_1]; exact n4 f, fun f => ?_, Or.inl ⟨zt_c_12 (by omega) (by omega), E1⟩⟩
  rw [zt_hi_1]
  have := n5 f
  split <;> omega
theorem zt_sp_2 (h : zt_ok s c l e d lo hi) (hp : p0 < s) (hc : c p0 = 4) (hF : F < 4) (hL : L ≤ 15) :
    zt_nd (s + 2) (zt_c c p0 F) (zt_l l p0 L) (zt_e e p0) (zt_d d p0) (zt_lo lo p0 F L) (zt_hi hi p0 F L) (p0 + 2) := by
  obtain ⟨n1, n2, n3, n4, n5, n6⟩ := zt_node h hp
  have e0 := zt_leaf h hp hc
  have E1 : zt_e e p0 (p0 + 2) = p0 + 3 := zt_e_12 (by omega) (by omega)
  have D1 : zt_d d p0 (p0 + 2) = d p0 + 1 := zt_d_12 (by omega) (by omega)
  refine ⟨by omega, by omega, by omega, fun f => ?_, fun f => by rw [zt_hi_2]; exact n5 f, Or.inl ⟨zt_c_12 (by omega) (by omega), E1⟩⟩
  rw [zt_lo_2]
  have := n4 f
  split <;> omega
theorem zt_split (h : zt_ok s c l e d lo hi) (hp : p0 < s) (hc : c p0 = 4) (hs : s ≤ 13) (hF : F < 4) (hL : L ≤ 15) :
    zt_ok (s + 2) (zt_c c p0 F) (zt_l l p0 L) (zt_e e p0) (zt_d d p0) (zt_lo lo p0 F L) (zt_hi hi p0 F L) := by
  have e0 := h.2.2.1
  refine ⟨by omega, by omega, ?_, ?_, ?_, ?_, ?_⟩
  · rw [zt_e_b (Nat.zero_le _) (by omega), e0]
  · rw [zt_d_le (Nat.zero_le _)]; exact h.2.2.2.1
  · intro f; rw [zt_lo_le (Nat.zero_le _)]; exact h.2.2.2.2.1 f
  · intro f; rw [zt_hi_le (Nat.zero_le _)]; exact h.2.2.2.2.2.1 f
  · intro q hq
    by_cases h1 : q < p0
    · exact zt_sp_lt h hp hc h1
    · by_cases h2 : p0 + 2 < q
      · obtain ⟨x, rfl⟩ : ∃ x, q = x + 2 := ⟨q - 2, by omega⟩
        exact zt_sp_gt h hp hc (by omega) (by omega)
      · by_cases h3 : q = p0
        · subst h3; exact zt_sp_at h hp hc hF hL
        · by_cases h4 : q = p0 + 1
          · subst h4; exact zt_sp_1 h hp hc hF hL
          · have h5 : q = p0 + 2 := by omega
            subst h5; exact zt_sp_2 h hp hc hF hL
theorem zt_lb_cg {c c' : Nat → Nat} : ∀ n, (∀ j, j < n → c' j = c j) → zt_lb c' n = zt_lb c n := by
  intro n
  induction n with
  | zero => intro _; rfl
  | succ n ih =>
    intro h
    show zt_lb c' n + (if c' n = 4 then 1 else 0) = zt_lb c n + (if c n = 4 then 1 else 0)
    rw [ih (fun j hj => h j (by omega)), h n (by omega)]
theorem zt_ct_cg {c c' : Nat → Nat} (f : Nat) : ∀ n, (∀ j, j < n → c' j = c j) → zt_ct c' f n = zt_ct c f n := by
  intro n
  induction n with
  | zero => intro _; rfl
  | succ n ih =>
    intro h
    show zt_ct c' f n + (if c' n = f then 1 else 0) = zt_ct c f n + (if c n = f then 1 else 0)
    rw [ih (fun j hj => h j (by omega)), h n (by omega)]
theorem zt_lbL {q : Nat} (h : q ≤ p0) : zt_lb (zt_c c p0 F) q = zt_lb c q := zt_lb_cg q (fun j hj => zt_c_lt (by omega))
theorem zt_lb1 (hF : F < 4) : zt_lb (zt_c c p0 F) (p0 + 1) = zt_lb c p0 := by
  rw [zt_lb_fork (by rw [zt_c_at]; omega), zt_lbL (Nat.le_refl _)]
theorem zt_lb2 (hF : F < 4) : zt_lb (zt_c c p0 F) (p0 + 2) = zt_lb c p0 + 1 := by
  rw [zt_lb_leaf (p := p0 + 1) (zt_c_12 (by omega) (by omega)), zt_lb1 hF]
theorem zt_lb3 (hF : F < 4) : zt_lb (zt_c c p0 F) (p0 + 3) = zt_lb c p0 + 2 := by
  rw [zt_lb_leaf (p := p0 + 2) (zt_c_12 (by omega) (by omega)), zt_lb2 hF]
theorem zt_lbR (hc : c p0 = 4) (hF : F < 4) : ∀ k, zt_lb (zt_c c p0 F) (p0 + 1 + k + 2) = zt_lb c (p0 + 1 + k) + 1 := by
  intro k
  induction k with
  | zero =>
    show zt_lb (zt_c c p0 F) (p0 + 3) = zt_lb c (p0 + 1) + 1
    rw [zt_lb3 hF, zt_lb_leaf hc]
  | succ k ih =>
    show zt_lb (zt_c c p0 F) (p0 + 1 + k + 2) + (if zt_c c p0 F (p0 + 1 + k + 2) = 4 then 1 else 0) = zt_lb c (p0 + 1 + k) + (if c (p0 + 1 + k) = 4 then 1 else 0) + 1
    rw [ih, zt_c_gt (by omega)]
    omega
theorem zt_lbG (hc : c p0 = 4) (hF : F < 4) {x : Nat} (hx : p0 < x) : zt_lb (zt_c c p0 F) (x + 2) = zt_lb c x + 1 := by
  have := zt_lbR hc hF (x - (p0 + 1))
  rwa [show p0 + 1 + (x - (p0 + 1)) = x from by omega] at this
theorem zt_ctR (hc : c p0 = 4) {f : Nat} (hf : f < 4) : ∀ k, zt_ct (zt_c c p0 F) f (p0 + 1 + k + 2) = zt_ct c f (p0 + 1 + k) + if F = f then 1 else 0 := by
  intro k
  induction k with
  | zero =>
    show zt_ct (zt_c c p0 F) f p0 + (if zt_c c p0 F p0 = f then 1 else 0) + (if zt_c c p0 F (p0 + 1) = f then 1 else 0) + (if zt_c c p0 F (p0 + 2) = f then 1 else 0) = zt_ct c f p0 + (if c p0 = f then 1 else 0) + if F = f then 1 else 0
    rw [zt_c_at, zt_c_12 (q := p0 + 1) (by omega) (by omega), zt_c_12 (q := p0 + 2) (by omega) (by omega), hc, if_neg (show ¬ 4 = f by omega), zt_ct_cg (c := c) f p0 (fun j hj => zt_c_lt hj)]
    omega
  | succ k ih =>
    show zt_ct (zt_c c p0 F) f (p0 + 1 + k + 2) + (if zt_c c p0 F (p0 + 1 + k + 2) = f then 1 else 0) = zt_ct c f (p0 + 1 + k) + (if c (p0 + 1 + k) = f then 1 else 0) + if F = f then 1 else 0
    rw [ih, zt_c_gt (by omega)]
    omega
theorem zt_ctG (hc : c p0 = 4) {f : Nat} (hf : f < 4) {x : Nat} (hx : p0 < x) : zt_ct (zt_c c p0 F) f (x + 2) = zt_ct c f x + if F = f then 1 else 0 := by
  have := zt_ctR (F := F) hc hf (x - (p0 + 1))
  rwa [show p0 + 1 + (x - (p0 + 1)) = x from by omega] at this
end
end
section
/-! what the two states hold of a tree -/
section
variable {t s : Nat} {c l e d : Nat → Nat} {lo hi : Nat → Nat → Nat} {w : Nat → Int32}
variable {LC LV FA BL BG AS LC' LV' FA' BL' BG' AS' SZ AK NM SZ' AK' NM' : Nat → Int32}
def zr_X (t s : Nat) (c d : Nat → Nat) (lo hi : Nat → Nat → Nat) (w : Nat → Int32) (LC LV FA BL BG AS : Nat → Int32) : Prop :=
  LC t = nI (zt_lb c s) ∧
  (∀ p, p < s → c p = 4 → LV (8 * t + zt_lb c p) = w p ∧ FA (8 * t + zt_lb c p) = nI (d p) ∧
    ∀ f, f < 4 → BL (4 * (8 * t + zt_lb c p) + f) = nI (lo p f) ∧ BG (4 * (8 * t + zt_lb c p) + f) = nI (hi p f)) ∧
  ∀ f, f < 4 → AS (4 * t + f) = nI (zt_ct c f s)
def zr_Y (t s : Nat) (c l : Nat → Nat) (w : Nat → Int32) (SZ AK NM : Nat → Int32) : Prop :=
  SZ t = nI s ∧ ∀ p, p < s → (c p = 4 → AK (15 * t + p) = -1 ∧ NM (15 * t + p) = w p) ∧ (c p ≠ 4 → AK (15 * t + p) = nI (c p) ∧ NM (15 * t + p) = nI (l p))
/-- both sides' tree t -/
def zr_T (t : Nat) (LC LV FA BL BG AS SZ AK NM : Nat → Int32) : Prop :=
  ∃ (s : Nat) (c l e d : Nat → Nat) (lo hi : Nat → Nat → Nat) (w : Nat → Int32), zt_ok s c l e d lo hi ∧ zr_X t s c d lo hi w LC LV FA BL BG AS ∧ zr_Y t s c l w SZ AK NM
theorem zr_X_fr (H : zt_ok s c l e d lo hi) (h : zr_X t s c d lo hi w LC LV FA BL BG AS) (h1 : LC' t = LC t) (h2 : ∀ j, j < 8 → LV' (8 * t + j) = LV (8 * t + j)) (h3 : ∀ j, j < 8 → FA' (8 * t + j) = FA (8 * t + j))
    (h4 : ∀ j f, j < 8 → f < 4 → BL' (4 * (8 * t + j) + f) = BL (4 * (8 * t + j) + f)) (h5 : ∀ j f, j < 8 → f < 4 → BG' (4 * (8 * t + j) + f) = BG (4 * (8 * t + j) + f)) (h6 : ∀ f, f < 4 → AS' (4 * t + f) = AS (4 * t + f)) :
    zr_X t s c d lo hi w LC' LV' FA' BL' BG' AS' := by
  obtain ⟨a, b, k⟩ := h
  refine ⟨by rw [h1]; exact a, fun p hp hc => ?_, fun f hf => by rw [h6 f hf]; exact k f hf⟩
  obtain ⟨b1, b2, b3⟩ := b p hp hc
  have hj : zt_lb c p < 8 := by
    have := zt_lb_lt hp hc
    have := zt_lb_8 H
    omega
  refine ⟨by rw [h2 _ hj]; exact b1, by rw [h3 _ hj]; exact b2, fun f hf => ?_⟩
  rw [h4 _ f hj hf, h5 _ f hj hf]
  exact b3 f hf
theorem zr_Y_fr (H : zt_ok s c l e d lo hi) (h : zr_Y t s c l w SZ AK NM) (h1 : SZ' t = SZ t) (h2 : ∀ p, p < 15 → AK' (15 * t + p) = AK (15 * t + p)) (h3 : ∀ p, p < 15 → NM' (15 * t + p) = NM (15 * t + p)) : zr_Y t s c l w SZ' AK' NM' := by
  obtain ⟨a, b⟩ := h
  refine ⟨by rw [h1]; exact a, fun p hp => ?_⟩
  have hp15 : p < 15 := Nat.lt_of_lt_of_le hp H.2.1
  rw [h2 p hp15, h3 p hp15]
  exact b p hp
/-- a tree of one leaf -/
theorem zt_one1 : zt_ok 1 (fun _ => 4) (fun _ => 0) (fun p => p + 1) (fun _ => 0) (fun _ _ => 0) (fun _ _ => 15) := by
  refine ⟨by omega, by omega, rfl, rfl, fun _ => rfl, fun _ => rfl, fun p hp => ?_⟩
  exact ⟨by show p < p + 1; omega, by show p + 1 ≤ 1; omega, by show 2 * 0 + (p + 1) ≤ 1 + p; omega, fun f => by show 0 ≤ 16; omega, fun f => by show 15 ≤ 15; omega, Or.inl ⟨rfl, rfl⟩⟩
theorem zr_X_1 (h1 : LC t = 1) (h2 : LV (8 * t) = 0) (h3 : FA (8 * t) = 0) (h4 : ∀ f, f < 4 → BL (4 * (8 * t) + f) = 0 ∧ BG (4 * (8 * t) + f) = 15 ∧ AS (4 * t + f) = 0) :
    zr_X t 1 (fun _ => 4) (fun _ => 0) (fun _ _ => 0) (fun _ _ => 15) (fun _ => 0) LC LV FA BL BG AS := by
  refine ⟨by rw [h1]; rfl, fun p hp hc => ?_, fun f hf => ?_⟩
  · have hp0 : p = 0 := by omega
    subst hp0
    exact ⟨h2, by rw [show 8 * t + zt_lb (fun _ => 4) 0 = 8 * t from rfl, h3]; rfl, fun f hf => ⟨(h4 f hf).1, (h4 f hf).2.1⟩⟩
  · rw [(h4 f hf).2.2]
    show (0 : Int32) = nI (0 + if 4 = f then 1 else 0)
    rw [if_neg (by omega)]
    all_goals rfl
theorem zr_Y_1 (h1 : SZ t = 1) (h2 : AK (15 * t) = -1) (h3 : NM (15 * t) = 0) : zr_Y t 1 (fun _ => 4) (fun _ => 0) (fun _ => 0) SZ AK NM := by
  refine ⟨h1, fun p hp => ?_⟩
  have hp0 : p = 0 := by omega
  subst hp0
  exact ⟨fun _ => ⟨h2, h3⟩, fun z => absurd rfl z⟩
/-! the split -/
def zt_w (w : Nat → Int32) (p0 : Nat) (q : Nat) : Int32 := if q < p0 then w q else if q ≤ p0 + 1 then w p0 else if q = p0 + 2 then 0 else w (q - 2)
theorem zt_w_lt {p0 q : Nat} (h : q < p0) : zt_w w p0 q = w q := by unfold zt_w; rw [if_pos h]
theorem zt_w_1 {p0 : Nat} : zt_w w p0 (p0 + 1) = w p0 := by unfold zt_w; rw [if_neg (by omega), if_pos (Nat.le_refl _)]
theorem zt_w_2 {p0 : Nat} : zt_w w p0 (p0 + 2) = 0 := by unfold zt_w; rw [if_neg (by omega), if_neg (by omega), if_pos rfl]
theorem zt_w_gt {p0 x : Nat} (h : p0 < x) : zt_w w p0 (x + 2) = w x := by unfold zt_w; rw [if_neg (by omega), if_neg (by omega), if_neg (by omega)]; all_goals rfl
theorem zr_cases {p0 q : Nat} (hs : q < s + 2) : q < p0 ∨ q = p0 ∨ q = p0 + 1 ∨ q = p0 + 2 ∨ ∃ x, q = x + 2 ∧ p0 < x ∧ x < s := by
  by_cases h1 : q < p0
  · exact Or.inl h1
  · by_cases h2 : q ≤ p0 + 2
    · omega
    · exact Or.inr (Or.inr (Or.inr (Or.inr ⟨q - 2, by omega, by omega, by omega⟩)))
theorem zr_Y_sp {p0 F L : Nat} (h : zr_Y t s c l w SZ AK NM) (hp : p0 < s) (hc : c p0 = 4) (hF : F < 4) (h1 : SZ' t = nI (s + 2))
    (h2 : ∀ k, AK' k = if k = 15 * t + p0 then nI F else if k = 15 * t + p0 + 1 ∨ k = 15 * t + p0 + 2 then -1 else if 15 * t + p0 + 2 < k ∧ k < 15 * t + s + 2 then AK (k - 2) else AK k)
    (h3 : ∀ k, NM' k = if k = 15 * t + p0 then nI L else if k = 15 * t + p0 + 1 then NM (15 * t + p0) else if k = 15 * t + p0 + 2 then 0 else if 15 * t + p0 + 2 < k ∧ k < 15 * t + s + 2 then NM (k - 2) else NM k) :
    zr_Y t (s + 2) (zt_c c p0 F) (zt_l l p0 L) (zt_w w p0) SZ' AK' NM' := by
  obtain ⟨a, b⟩ := h
  refine ⟨h1, fun q hq => ?_⟩
  rw [h2, h3]
  rcases zr_cases (p0 := p0) hq with z | z | z | z | ⟨x, z, z1, z2⟩
  · rw [if_neg (by omega), if_neg (by omega), if_neg (by omega), if_neg (by omega), if_neg (by omega), if_neg (by omega), if_neg (by omega), zt_c_lt z, zt_l_lt z, zt_w_lt z]
    exact b q (by omega)
  · subst z
    rw [if_pos rfl, if_pos rfl, zt_c_at, zt_l_at]
    exact ⟨fun z => absurd z (by omega), fun _ => ⟨rfl, rfl⟩⟩
  · subst z
    rw [if_neg (by omega), if_pos (by omega), if_neg (by omega), if_pos (by omega), zt_c_12 (by omega) (by omega), zt_w_1]
    exact ⟨fun _ => ⟨rfl, ((b p0 hp).1 hc).2⟩, fun z => absurd rfl z⟩
  · subst z
    rw [if_neg (by omega), if_pos (by omega), if_neg (by omega), if_neg (by omega), if_pos (by omega), zt_c_12 (by omega) (by omega), zt_w_2]
    exact ⟨fun _ => ⟨rfl, rfl⟩, fun z => absurd rfl z⟩
  · subst z
    rw [if_neg (by omega), if_neg (by omega), if_pos (by omega), if_neg (by omega), if_neg (by omega), if_neg (by omega), if_pos (by omega), zt_c_gt z1, zt_l_gt z1, zt_w_gt z1, show 15 * t + (x + 2) - 2 = 15 * t + x from by omega]
    exact b x z2
theorem zr_X_sp {p0 F L : Nat} (H : zt_ok s c l e d lo hi) (h : zr_X t s c d lo hi w LC LV FA BL BG AS) (hp : p0 < s) (hc : c p0 = 4) (hF : F < 4) (hL : L ≤ 15)
    (h1 : LC' t = nI (zt_lb c s + 1))
    (h2 : ∀ k, LV' k = if k = 8 * t + zt_lb c p0 + 1 then 0 else if 8 * t + zt_lb c p0 + 1 < k ∧ k ≤ 8 * t + zt_lb c s then LV (k - 1) else LV k)
    (h3 : ∀ k, FA' k = if k = 8 * t + zt_lb c p0 ∨ k = 8 * t + zt_lb c p0 + 1 then FA (8 * t + zt_lb c p0) + 1 else if 8 * t + zt_lb c p0 + 1 < k ∧ k ≤ 8 * t + zt_lb c s then FA (k - 1) else FA k)
    (h4 : ∀ j f, f < 4 → BL' (4 * j + f) = if j = 8 * t + zt_lb c p0 + 1 then (if f = F ∧ BL (4 * (8 * t + zt_lb c p0) + f) < nI (L + 1) then nI (L + 1) else BL (4 * (8 * t + zt_lb c p0) + f)) else if 8 * t + zt_lb c p0 + 1 < j ∧ j ≤ 8 * t + zt_lb c s then BL (4 * (j - 1) + f) else BL (4 * j + f))
    (h5 : ∀ j f, f < 4 → BG' (4 * j + f) = if j = 8 * t + zt_lb c p0 then (if f = F ∧ nI L < BG (4 * (8 * t + zt_lb c p0) + f) then nI L else BG (4 * (8 * t + zt_lb c p0) + f)) else if 8 * t + zt_lb c p0 < j ∧ j ≤ 8 * t + zt_lb c s then BG (4 * (j - 1) + f) else BG (4 * j + f))
    (h6 : ∀ f, f < 4 → AS' (4 * t + f) = if F = f then AS (4 * t + f) + 1 else AS (4 * t + f)) :
    zr_X t (s + 2) (zt_c c p0 F) (zt_d d p0) (zt_lo lo p0 F L) (zt_hi hi p0 F L) (zt_w w p0) LC' LV' FA' BL' BG' AS' := by
  obtain ⟨a, b, k⟩ := h
  obtain ⟨b1, b2, b3⟩ := b p0 hp hc
  have hps := zt_lb_lt hp hc
  refine ⟨by rw [h1, zt_lbG hc hF hp], fun q hq hcq => ?_, fun f hf => ?_⟩
  · rcases zr_cases (p0 := p0) hq with z | z | z | z | ⟨x, z, z1, z2⟩
    · rw [zt_c_lt z] at hcq
      have hj := zt_lb_lt z hcq
      obtain ⟨x1, x2, x3⟩ := b q (by omega) hcq
      rw [zt_lbL (by omega), zt_w_lt z, zt_d_le (by omega), h2, h3]
      refine ⟨by rw [if_neg (by omega), if_neg (by omega)]; exact x1, by rw [if_neg (by omega), if_neg (by omega)]; exact x2, fun f hf => ?_⟩
      rw [h4 _ f hf, h5 _ f hf, zt_lo_le (by omega), zt_hi_le (by omega), if_neg (by omega), if_neg (by omega), if_neg (by omega), if_neg (by omega)]
      exact x3 f hf
    · subst z
      rw [zt_c_at] at hcq
      omega
    · subst z
      rw [zt_lb1 hF, zt_w_1, zt_d_12 (by omega) (by omega), h2, h3]
      refine ⟨by rw [if_neg (by omega), if_neg (by omega)]; exact b1, by rw [if_pos (by omega), b2, nI_1], fun f hf => ?_⟩
      rw [h4 _ f hf, h5 _ f hf, zt_lo_1, zt_hi_1, if_neg (by omega), if_neg (by omega), if_pos rfl]
      obtain ⟨y1, y2⟩ := b3 f hf
      have hh := (zt_node H hp).2.2.2.2.1 f
      refine ⟨y1, ?_⟩
      have hlt : nI L < nI (hi p0 f) ↔ L < hi p0 f := nI_ltI (by omega) (by omega)
      rw [y2]
      by_cases z : f = F ∧ L < hi p0 f
      · rw [if_pos ⟨z.1, hlt.mpr z.2⟩, if_pos z]
      · rw [if_neg (fun y => z ⟨y.1, hlt.mp y.2⟩), if_neg z]
    · subst z
      rw [zt_lb2 hF, zt_w_2, zt_d_12 (by omega) (by omega), h2, h3]
      refine ⟨by rw [if_pos (by omega)], by rw [if_pos (by omega), b2, nI_1], fun f hf => ?_⟩
      rw [h4 _ f hf, h5 _ f hf, zt_lo_2, zt_hi_2]
      obtain ⟨y1, y2⟩ := b3 f hf
      have hh := (zt_node H hp).2.2.2.1 f
      have hlt : nI (lo p0 f) < nI (L + 1) ↔ lo p0 f < L + 1 := nI_ltI (by omega) (by omega)
      refine ⟨?_, ?_⟩
      · rw [if_pos (show 8 * t + (zt_lb c p0 + 1) = 8 * t + zt_lb c p0 + 1 from by omega), y1]
        by_cases z : f = F ∧ lo p0 f < L + 1
        · rw [if_pos ⟨z.1, hlt.mpr z.2⟩, if_pos z]
        · rw [if_neg (fun y => z ⟨y.1, hlt.mp y.2⟩), if_neg z]
      · rw [if_neg (show ¬ 8 * t + (zt_lb c p0 + 1) = 8 * t + zt_lb c p0 from by omega), if_pos (by omega), show 8 * t + (zt_lb c p0 + 1) - 1 = 8 * t + zt_lb c p0 from by omega]
        exact y2
    · subst z
      rw [zt_c_gt z1] at hcq
      have hj := zt_lb_lt z1 hc
      have hj2 := zt_lb_lt z2 hcq
      obtain ⟨x1, x2, x3⟩ := b x z2 hcq
      rw [zt_lbG hc hF z1, zt_w_gt z1, zt_d_gt z1, h2, h3]
      refine ⟨by rw [if_neg (by omega), if_pos (by omega)]; exact x1, by rw [if_neg (by omega), if_pos (by omega)]; exact x2, fun f hf => ?_⟩
      rw [h4 _ f hf, h5 _ f hf, zt_lo_gt z1, zt_hi_gt z1, if_neg (by omega), if_pos (by omega), if_neg (by omega), if_pos (by omega), show 8 * t + (zt_lb c x + 1) - 1 = 8 * t + zt_lb c x from by omega]
      exact x3 f hf
  · rw [h6 f hf, zt_ctG hc hf hp, k f hf]
    by_cases z : F = f
    · rw [if_pos z, if_pos z, nI_1]
    · rw [if_neg z, if_neg z]; all_goals rfl
end
end
section
/-! features of a point; the point with another feature -/
def za_f (P f : Nat) : Nat := P / 2 ^ (4 * f) % 16
theorem za_f15 (P f : Nat) : za_f P f ≤ 15 := by unfold za_f; omega
theorem za_feat {P f : Nat} (hP : P < 65536) (hf : f < 4) : (nI P >>> (nI (4 * f) &&& 31)) &&& 15 = nI (za_f P f) := by
  have h1 : P / 2 ^ (4 * f) ≤ P := Nat.div_le_self _ _
  rw [pk_shrN (by omega) (nI (4 * f) &&& 31) (4 * f) (s_l (4 * f) (by omega)), pk_andN (by omega) 4 (by decide)]
  all_goals rfl
theorem za_self (x : Int32) : x = nI x.toBitVec.toNat := by
  apply Int32.toBitVec_inj.mp
  apply BitVec.eq_of_toNat_eq
  rw [pk_tn x.toBitVec.isLt]
theorem za_pw {f : Nat} (hf : f < 4) : 2 ^ (4 * f) ≤ 4096 := by
  have h : f = 0 ∨ f = 1 ∨ f = 2 ∨ f = 3 := by omega
  rcases h with h | h | h | h <;> subst h <;> decide
theorem za_with {P f x : Nat} (hP : P < 65536) (hf : f < 4) (hx : x ≤ 15) (M : Int32) : ∃ m, m < 65536 ∧ (nI P &&& M) ||| (nI x <<< (nI (4 * f) &&& 31)) = nI m := by
  have hm : x * 2 ^ (4 * f) ≤ 15 * 4096 := Nat.mul_le_mul hx (za_pw hf)
  have hb : ((nI P &&& M) ||| (nI x <<< (nI (4 * f) &&& 31))).toBitVec.toNat < 2 ^ 16 := by
    rw [pk_shlN (nI (4 * f) &&& 31) (4 * f) (s_l (4 * f) (by omega)) (by omega), Int32.toBitVec_or, Int32.toBitVec_and, BitVec.toNat_or, BitVec.toNat_and]
    refine Nat.or_lt_two_pow (Nat.lt_of_le_of_lt Nat.and_le_left (by rw [pk_tn (by omega)]; exact hP)) ?_
    rw [pk_tn (by omega)]
    omega
  exact ⟨_, hb, za_self _⟩
theorem za_tree (t : Int32) : (t < 0 ∨ 4 ≤ t) ∨ ∃ j : Nat, j < 4 ∧ t = nI j := by
  rcases pk_ix t (n := 4) (by omega) with h | h | h
  · exact Or.inl (Or.inl h)
  · exact Or.inl (Or.inr h)
  · exact Or.inr h
def za_sum (w : Nat → Int32) : Nat → Int32
  | 0 => 0
  | n + 1 => za_sum w n + w n
end
section
/-! the count of forks that ask about f, as Y goes over its cells -/
section
variable {t s : Nat} {c l e d : Nat → Nat} {lo hi : Nat → Nat → Nat} {w : Nat → Int32} {SZ AK NM : Nat → Int32}
theorem za_m1 {n : Nat} (h : n < 2 ^ 31) : nI n ≠ -1 := fun z => by
  have k := nI_pos h
  rw [z] at k
  exact k (by decide)
def zn_y (SZ AK : Nat → Int32) (f : Int32) : Nat → Int32
  | 0 => 0
  | k + 1 => if nI (k % 15) < SZ (k / 15) ∧ AK k = f then zn_y SZ AK f k + 1 else zn_y SZ AK f k
theorem zn_s {f : Nat} (H : zt_ok s c l e d lo hi) (h : zr_Y t s c l w SZ AK NM) (hf : f < 4) : ∀ j, j ≤ s → zn_y SZ AK (nI f) (15 * t + j) = zn_y SZ AK (nI f) (15 * t) + nI (zt_ct c f j) := by
  have hs := H.2.1
  intro j
  induction j with
  | zero =>
    intro _
    rw [show zt_ct c f 0 = 0 from rfl, nI_0, Int32.add_zero]
    all_goals rfl
  | succ j ih =>
    intro hj
    show (if nI ((15 * t + j) % 15) < SZ ((15 * t + j) / 15) ∧ AK (15 * t + j) = nI f then zn_y SZ AK (nI f) (15 * t + j) + 1 else zn_y SZ AK (nI f) (15 * t + j)) = zn_y SZ AK (nI f) (15 * t) + nI (zt_ct c f j + if c j = f then 1 else 0)
    rw [show (15 * t + j) % 15 = j from by omega, show (15 * t + j) / 15 = t from by omega, h.1, ih (by omega)]
    have hlt : nI j < nI s := nI_lt (by omega) (by omega)
    have hb := h.2 j (by omega)
    by_cases hc : c j = f
    · have hA : AK (15 * t + j) = nI f := by rw [(hb.2 (by omega)).1, hc]
      rw [if_pos ⟨hlt, hA⟩, if_pos hc, Int32.add_assoc, nI_1]
    · have hA : ¬ AK (15 * t + j) = nI f := by
        by_cases h4 : c j = 4
        · rw [(hb.1 h4).1]
          exact fun z => za_m1 (by omega) z.symm
        · have := zt_c4 H (p := j) (by omega) h4
          rw [(hb.2 h4).1, nI_eq (by omega) (by omega)]
          exact hc
      rw [if_neg (fun z => hA z.2), if_neg hc]
      all_goals rfl
theorem zn_r {f : Nat} (H : zt_ok s c l e d lo hi) (h : zr_Y t s c l w SZ AK NM) (hf : f < 4) : ∀ j, s + j ≤ 15 → zn_y SZ AK (nI f) (15 * t + (s + j)) = zn_y SZ AK (nI f) (15 * t) + nI (zt_ct c f s) := by
  intro j
  induction j with
  | zero => intro _; exact zn_s H h hf s (Nat.le_refl _)
  | succ j ih =>
    intro hj
    show (if nI ((15 * t + (s + j)) % 15) < SZ ((15 * t + (s + j)) / 15) ∧ AK (15 * t + (s + j)) = nI f then zn_y SZ AK (nI f) (15 * t + (s + j)) + 1 else zn_y SZ AK (nI f) (15 * t + (s + j))) = _
    rw [show (15 * t + (s + j)) % 15 = s + j from by omega, show (15 * t + (s + j)) / 15 = t from by omega, h.1, ih (by omega)]
    have hlt : ¬ nI (s + j) < nI s := nI_nlt (by omega) (by omega)
    rw [if_neg (fun z => hlt z.1)]
theorem zn_t {f : Nat} (H : zt_ok s c l e d lo hi) (h : zr_Y t s c l w SZ AK NM) (hf : f < 4) : zn_y SZ AK (nI f) (15 * (t + 1)) = zn_y SZ AK (nI f) (15 * t) + nI (zt_ct c f s) := by
  have hs := H.2.1
  have := zn_r H h hf (15 - s) (by omega)
  rwa [show 15 * t + (s + (15 - s)) = 15 * (t + 1) from by omega] at this
theorem zn_60 {f : Nat} {LC LV FA BL BG AS : Nat → Int32} (hf : f < 4) (h : ∀ t, t < 4 → zr_T t LC LV FA BL BG AS SZ AK NM) : ∀ t, t ≤ 4 → zn_y SZ AK (nI f) (15 * t) = za_sum (fun t => AS (4 * t + f)) t := by
  intro t
  induction t with
  | zero => intro _; rfl
  | succ t ih =>
    intro ht
    obtain ⟨s, c, l, e, d, lo, hi, w, H, hX, hY⟩ := h t (by omega)
    rw [zn_t H hY hf, ih (by omega)]
    show _ = za_sum (fun t => AS (4 * t + f)) t + AS (4 * t + f)
    rw [hX.2.2 f hf]
end
end
section
/-- both sides hold the same four trees -/
def i_Rel (_ : Nat) (u : SX) (v : SY) : Prop := ∀ t, t < 4 → zr_T t u.1 u.2.1 u.2.2.1 u.2.2.2.1 u.2.2.2.2.1 u.2.2.2.2.2 v.1 v.2.1 v.2.2.1
theorem i_up {k : Nat} {u : SX} {v : SY} (h : i_Rel k u v) : i_Rel (k + 5) u v := h
end
section
/-! Y's find, behind, walk -/
section
variable {t s : Nat} {c l e d : Nat → Nat} {lo hi : Nat → Nat → Nat} {w : Nat → Int32} {SZ AK NM LW HG : Nat → Int32}
theorem za_15 (t p : Nat) : 15 * nI t + nI p = nI (15 * t + p) := by
  rw [show (15 : Int32) = nI 15 from rfl, pk_mul, nI_add]
theorem za_4 (a f : Nat) : nI a * 4 + nI f = nI (4 * a + f) := by
  rw [show (4 : Int32) = nI 4 from rfl, pk_mul, nI_add, Nat.mul_comm]
theorem za_8 (a f : Nat) : nI a * 8 + nI f = nI (8 * a + f) := by
  rw [show (8 : Int32) = nI 8 from rfl, pk_mul, nI_add, Nat.mul_comm]
theorem zy_ix {p : Nat} (ht : t < 4) (hp : p < 15) : (15 * nI t + nI p).toNatClampNeg = 15 * t + p := by
  rw [za_15, nI_clamp (by omega)]
theorem zy_in {p : Nat} (ht : t < 4) (hp : p < 15) : vp_in (15 * nI t + nI p) 60 := by
  rw [za_15]; exact vp_in_nI (by omega) (by omega)
theorem zy_akL (H : zt_ok s c l e d lo hi) (hY : zr_Y t s c l w SZ AK NM) (ht : t < 4) {p : Nat} (hp : p < s) (hc : c p = 4) : AK (15 * nI t + nI p).toNatClampNeg = -1 := by
  have hs := H.2.1
  rw [zy_ix ht (by omega)]; exact ((hY.2 p hp).1 hc).1
theorem zy_akF (H : zt_ok s c l e d lo hi) (hY : zr_Y t s c l w SZ AK NM) (ht : t < 4) {p : Nat} (hp : p < s) (hc : c p ≠ 4) : AK (15 * nI t + nI p).toNatClampNeg = nI (c p) := by
  have hs := H.2.1
  rw [zy_ix ht (by omega)]; exact ((hY.2 p hp).2 hc).1
theorem zy_nmF (H : zt_ok s c l e d lo hi) (hY : zr_Y t s c l w SZ AK NM) (ht : t < 4) {p : Nat} (hp : p < s) (hc : c p ≠ 4) : NM (15 * nI t + nI p).toNatClampNeg = nI (l p) := by
  have hs := H.2.1
  rw [zy_ix ht (by omega)]; exact ((hY.2 p hp).2 hc).2
theorem zy_nmL (H : zt_ok s c l e d lo hi) (hY : zr_Y t s c l w SZ AK NM) (ht : t < 4) {p : Nat} (hp : p < s) (hc : c p = 4) : NM (15 * nI t + nI p).toNatClampNeg = w p := by
  have hs := H.2.1
  rw [zy_ix ht (by omega)]; exact ((hY.2 p hp).1 hc).2
theorem zy_geL (H : zt_ok s c l e d lo hi) (hY : zr_Y t s c l w SZ AK NM) (ht : t < 4) {p : Nat} (hp : p < s) (hc : c p = 4) : ¬ 0 ≤ AK (15 * nI t + nI p).toNatClampNeg := by
  rw [zy_akL H hY ht hp hc]; decide
theorem zy_geF (H : zt_ok s c l e d lo hi) (hY : zr_Y t s c l w SZ AK NM) (ht : t < 4) {p : Nat} (hp : p < s) (hc : c p ≠ 4) : 0 ≤ AK (15 * nI t + nI p).toNatClampNeg := by
  have := zt_c4 H hp hc
  rw [zy_akF H hY ht hp hc]; exact nI_pos' (by omega)
theorem zy_find_l (H : zt_ok s c l e d lo hi) (hY : zr_Y t s c l w SZ AK NM) (ht : t < 4) {i : Int32} {post : Int32 → Prop} (h1 : ∀ p, p < s → c p = 4 → nI (zt_lb c p) = i → post (nI p)) (h2 : (∀ p, p < s → c p = 4 → nI (zt_lb c p) ≠ i) → post (-1)) :
    ∀ k q, q + k = s → (∀ p, p < q → c p = 4 → nI (zt_lb c p) ≠ i) → wY_find_5 post (nI t) i SZ AK NM LW HG (k + 1) (nI (zt_lb c q)) (nI q) := by
  have hs := H.2.1
  have et : SZ (nI t).toNatClampNeg = nI s := by rw [nI_clamp (by omega)]; exact hY.1
  intro k
  induction k with
  | zero =>
    intro q hq hn
    have hq' : q = s := by omega
    rw [hq'] at hn ⊢
    refine br_f (nI_pos (by omega)) (br_f (nI_nlt (a := 3) (by omega) (by omega)) (br_f (by decide) ⟨vp_in_nI ht (by omega), br_t ?_ (h2 hn)⟩))
    rw [et]; exact nI_le (Nat.le_refl _) (by omega)
  | succ k ih =>
    intro q hq hn
    have hlt : q < s := by omega
    refine br_f (nI_pos (by omega)) (br_f (nI_nlt (a := 3) (by omega) (by omega)) (br_f (by decide) ⟨vp_in_nI ht (by omega), br_f ?_ ⟨zy_in ht (by omega), ?_⟩⟩))
    · rw [et]; exact nI_ge (by omega) (by omega)
    · by_cases hc : c q = 4
      · refine br_f (zy_geL H hY ht hlt hc) ?_
        by_cases hj : nI (zt_lb c q) = i
        · exact br_t hj (h1 q hlt hc hj)
        · refine br_f hj (nm_r (e' := nI (zt_lb c (q + 1))) (by rw [nI_1, zt_lb_leaf hc]) (nm_r (nI_1 q) (ih (q + 1) (by omega) ?_)))
          intro p hp hcp
          by_cases hpq : p = q
          · rw [hpq]; exact hj
          · exact hn p (by omega) hcp
      · refine br_t (zy_geF H hY ht hlt hc) (nm_r (nI_1 q) ?_)
        have := ih (q + 1) (by omega) (fun p hp hcp => by
          by_cases hpq : p = q
          · exact absurd (hpq ▸ hcp) hc
          · exact hn p (by omega) hcp)
        rw [zt_lb_fork hc] at this
        exact this
theorem zy_find (H : zt_ok s c l e d lo hi) (hY : zr_Y t s c l w SZ AK NM) (ht : t < 4) {i : Int32} {post : Int32 → Prop} (h1 : ∀ p, p < s → c p = 4 → nI (zt_lb c p) = i → post (nI p)) (h2 : (∀ p, p < s → c p = 4 → nI (zt_lb c p) ≠ i) → post (-1)) : wpY_find post (SZ, AK, NM, LW, HG) (nI t) i :=
  ⟨s + 1, zy_find_l H hY ht h1 h2 s 0 (Nat.zero_add _) (fun p hp => absurd hp (Nat.not_lt_zero _))⟩
theorem zy_find_bad {t i : Int32} {post : Int32 → Prop} (ht : t < 0 ∨ 4 ≤ t) (h : post (-1)) : wpY_find post (SZ, AK, NM, LW, HG) t i := by
  refine ⟨1, ?_⟩
  by_cases h0 : t < 0
  · exact br_t h0 (br_t rfl h)
  · have h4 : 4 ≤ t := ht.resolve_left h0
    have h3 : (3 : Int32) < t := Int32.lt_of_lt_of_le (by decide) h4
    exact br_f h0 (br_t h3 (br_t rfl h))
theorem zy_beh_l (H : zt_ok s c l e d lo hi) (hY : zr_Y t s c l w SZ AK NM) (ht : t < 4) {post : Int32 → Prop} :
    ∀ k q, q < s → e q - q ≤ k → ∀ o n, o + k < 1000 → wY_behind_5 post (nI t) SZ AK NM LW HG n (nI o) (nI (e q)) → wY_behind_5 post (nI t) SZ AK NM LW HG (n + (e q - q)) (nI (o + 1)) (nI q) := by
  have hs := H.2.1
  intro k
  induction k with
  | zero => intro q hq hn; have := (zt_node H hq).1; exfalso; omega
  | succ k ih =>
    intro q hq hn o n ho hW
    have hN := zt_node H hq
    have hes := hN.2.1
    by_cases hc : c q = 4
    · have he := zt_leaf H hq hc
      rw [he] at hW
      rw [show n + (e q - q) = n + 1 from by omega]
      exact br_f (nI_nle (by omega) (by omega)) (br_f (nI_ge (b := 15) (by omega) (by omega)) ⟨zy_in ht (by omega), br_f (zy_geL H hY ht hq hc) (nm_r (nI_pred o) (nm_r (nI_1 q) hW))⟩)
    · obtain ⟨f1, f2, f3, f4, f5, f6, f7, f8, f9, f10, f11⟩ := zt_fork H hq hc
      have hR := ih (e (q + 1)) (by omega) (by omega) o n (by omega) (by rw [f5]; exact hW)
      rw [f5] at hR
      have hL := ih (q + 1) (by omega) (by omega) (o + 1) (n + (e q - e (q + 1))) (by omega) hR
      rw [show n + (e q - q) = (n + (e q - e (q + 1)) + (e (q + 1) - (q + 1))) + 1 from by omega]
      exact br_f (nI_nle (by omega) (by omega)) (br_f (nI_ge (b := 15) (by omega) (by omega)) ⟨zy_in ht (by omega), br_t (zy_geF H hY ht hq hc) (nm_r (nI_1 (o + 1)) (nm_r (nI_1 q) hL))⟩)
theorem zy_behind (H : zt_ok s c l e d lo hi) (hY : zr_Y t s c l w SZ AK NM) (ht : t < 4) {post : Int32 → Prop} {p : Nat} (hp : p < s) (he : e p < 15) {x : Int32} (hx : x = nI p) (h : post (nI (e p))) : wpY_behind post (SZ, AK, NM, LW, HG) (nI t) x := by
  subst hx
  have hs := H.2.1
  have hN := zt_node H hp
  refine ⟨1 + (e p - p), zy_beh_l H hY ht _ p hp (Nat.le_refl _) 0 1 (by omega) (br_t (by decide) (br_f (nI_ge (b := 15) he (by omega)) h))⟩
theorem zy_wc (H : zt_ok s c l e d lo hi) (hY : zr_Y t s c l w SZ AK NM) (ht : t < 4) {post : Int32 → Prop} {p : Nat} (hp : p < s) {x4 : Int32} (h : post (nI (zt_lb c p) + 16 * x4)) :
    ∀ k q, q + k = p → wY_walk_101 post (nI t) (nI p) x4 SZ AK NM LW HG (k + 1) (nI (zt_lb c q)) (nI q) := by
  have hs := H.2.1
  intro k
  induction k with
  | zero =>
    intro q hq
    have hq' : q = p := by omega
    rw [hq']
    exact br_t (nI_le (Nat.le_refl _) (by omega)) h
  | succ k ih =>
    intro q hq
    have hlt : q < s := by omega
    refine br_f (nI_ge (by omega) (by omega)) ⟨zy_in ht (by omega), ?_⟩
    have hi := ih (q + 1) (by omega)
    by_cases hc : c q = 4
    · rw [zt_lb_leaf hc] at hi
      exact br_f (zy_geL H hY ht hlt hc) (nm_r (nI_1 _) (nm_r (nI_1 q) hi))
    · rw [zt_lb_fork hc] at hi
      exact br_t (zy_geF H hY ht hlt hc) (nm_r (nI_1 q) hi)
theorem zy_wl (H : zt_ok s c l e d lo hi) (hY : zr_Y t s c l w SZ AK NM) (ht : t < 4) {P p : Nat} (hP : P < 65536) (hp : p < s) (hc : c p = 4) (hx : zt_in lo hi (za_f P) p) {post : Int32 → Prop} (h : post (nI (zt_lb c p + 16 * d p))) :
    ∀ k q, q < s → e q - q ≤ k → q ≤ p → p < e q → wY_walk_5 post (nI t) (nI P) SZ AK NM LW HG k (nI q) (nI (d q)) := by
  have hs := H.2.1
  intro k
  induction k with
  | zero => intro q hq hn h1 h2; exfalso; omega
  | succ k ih =>
    intro q hq hn h1 h2
    have hN := zt_node H hq
    have hes := hN.2.1
    refine ⟨zy_in ht (by omega), ?_⟩
    by_cases hcq : c q = 4
    · have he := zt_leaf H hq hcq
      have hpq : q = p := by omega
      rw [hpq]
      refine br_t (by rw [zy_akL H hY ht hp hc]; decide) ⟨p + 1, ?_⟩
      exact zy_wc H hY ht hp (by rw [show (16 : Int32) = nI 16 from rfl, pk_mul, nI_add]; exact h) p 0 (Nat.zero_add _)
    · have hd := (zt_dep H hq).2 hcq
      have hc4 := zt_c4 H hq hcq
      obtain ⟨f1, f2, f3, f4, f5, f6, f7, f8, f9, f10, f11⟩ := zt_fork H hq hcq
      have ef : (nI P >>> ((4 * nI (c q)) &&& 31)) &&& 15 = nI (za_f P (c q)) := by
        rw [show (4 : Int32) * nI (c q) = nI (4 * c q) from pk_mul 4 (c q)]; exact za_feat hP hc4
      have hf15 := za_f15 P (c q)
      refine br_f (by rw [zy_akF H hY ht hq hcq]; exact nI_pos (by omega)) (br_f (nI_ge (b := 7) (by omega) (by omega)) ⟨zy_in ht (by omega), nm_r (zy_akF H hY ht hq hcq) ⟨zy_in ht (by omega), ?_⟩⟩)
      by_cases hr : p < e (q + 1)
      · have hw := zt_wayL H hq hcq (by
          rcases Nat.lt_or_eq_of_le h1 with a | a
          · exact a
          · exact absurd (a ▸ hc) hcq) hr hx
        refine br_f (by rw [zy_nmF H hY ht hq hcq, ef]; exact nI_nlt hw (by omega)) (br_f (by decide) (nm_r (nI_1 q) (nm_r (e' := nI (d (q + 1))) (by rw [nI_1, f6]) ?_)))
        exact ih (q + 1) (by omega) (by omega) (by
          rcases Nat.lt_or_eq_of_le h1 with a | a
          · exact a
          · exact absurd (a ▸ hc) hcq) hr
      · have hw := zt_wayR H hq hcq (by omega) h2 hx
        refine br_t (by rw [zy_nmF H hY ht hq hcq, ef]; exact nI_lt (by omega) (by omega)) (br_t rfl ?_)
        refine zy_behind H hY ht (p := q + 1) (by omega) (by omega) (nI_1 q) ?_
        refine nm_r (e' := nI (d (e (q + 1)))) (by rw [nI_1, f7]) ?_
        exact ih (e (q + 1)) (by omega) (by omega) (by omega) (by omega)
theorem zy_walk (H : zt_ok s c l e d lo hi) (hY : zr_Y t s c l w SZ AK NM) (ht : t < 4) {P p : Nat} (hP : P < 65536) (hp : p < s) (hc : c p = 4) (hx : zt_in lo hi (za_f P) p) {post : Int32 → Prop} (h : post (nI (zt_lb c p + 16 * d p))) : wpY_walk post (SZ, AK, NM, LW, HG) (nI t) (nI P) := by
  have k := zy_wl (LW := LW) (HG := HG) H hY ht hP hp hc hx h (e 0) 0 H.1 (Nat.sub_le _ _) (Nat.zero_le _) (by rw [H.2.2.1]; exact hp)
  rw [H.2.2.2.1] at k
  exact ⟨_, k⟩
end
end
section
/-! Y's box, value, tree, point -/
section
variable {t s : Nat} {c l e d : Nat → Nat} {lo hi : Nat → Nat → Nat} {w : Nat → Int32} {SZ AK NM LW HG : Nat → Int32}
def zt_ne (lo hi : Nat → Nat → Nat) (p : Nat) : Prop := lo p 0 ≤ hi p 0 ∧ lo p 1 ≤ hi p 1 ∧ lo p 2 ≤ hi p 2 ∧ lo p 3 ≤ hi p 3
def zy_bx (lo hi : Nat → Nat → Nat) (p : Nat) (LW HG : Nat → Int32) : Prop := ∀ f, f < 4 → LW f = nI (lo p f) ∧ HG f = nI (hi p f)
theorem zy_b194 (H : zt_ok s c l e d lo hi) {p : Nat} (hp : p < s) {post : Int32 → SY → Prop} (hb : zy_bx lo hi p LW HG) (h1 : zt_ne lo hi p → post 1 (SZ, AK, NM, LW, HG)) (h0 : ¬ zt_ne lo hi p → post 0 (SZ, AK, NM, LW, HG)) : wY_box_194 post SZ AK NM LW HG := by
  have hl := (zt_node H hp).2.2.2.1
  have hh := (zt_node H hp).2.2.2.2.1
  have K : ∀ f, f < 4 → (HG f < LW f ↔ hi p f < lo p f) := fun f hf => by
    have := hl f
    have := hh f
    rw [(hb f hf).1, (hb f hf).2, nI_ltI (by omega) (by omega)]
  have K0 := K 0 (by omega)
  have K1 := K 1 (by omega)
  have K2 := K 2 (by omega)
  have K3 := K 3 (by omega)
  refine br_c (fun z => h0 (fun y => ?_)) (fun z0 => br_c (fun z => h0 (fun y => ?_)) (fun z1 => br_c (fun z => h0 (fun y => ?_)) (fun z2 => br_c (fun z => h0 (fun y => ?_)) (fun z3 => h1 ?_))))
  · have := K0.mp z; have := y.1; omega
  · have := K1.mp z; have := y.2.1; omega
  · have := K2.mp z; have := y.2.2.1; omega
  · have := K3.mp z; have := y.2.2.2; omega
  · exact ⟨Nat.not_lt.mp (fun x => z0 (K0.mpr x)), Nat.not_lt.mp (fun x => z1 (K1.mpr x)), Nat.not_lt.mp (fun x => z2 (K2.mpr x)), Nat.not_lt.mp (fun x => z3 (K3.mpr x))⟩
theorem zy_bl (H : zt_ok s c l e d lo hi) (hY : zr_Y t s c l w SZ AK NM) (ht : t < 4) {p : Nat} (hp : p < s) (hc : c p = 4) {post : Int32 → SY → Prop}
    (h : ∀ LW HG, zy_bx lo hi p LW HG → wY_box_194 post SZ AK NM LW HG) :
    ∀ k q LW HG, q < s → e q - q ≤ k → q ≤ p → p < e q → zy_bx lo hi q LW HG → wY_box_51 post (nI t) (nI p) k (nI q) (nI (d q)) SZ AK NM LW HG := by
  have hs := H.2.1
  intro k
  induction k with
  | zero => intro q LW HG hq hn h1 h2; exfalso; omega
  | succ k ih =>
    intro q LW HG hq hn h1 h2 hb
    have hN := zt_node H hq
    have hes := hN.2.1
    by_cases hpq : q = p
    · subst hpq
      exact br_c (fun _ => h LW HG hb) (fun _ => br_t (nI_le (Nat.le_refl _) (by omega)) (h LW HG hb))
    · have hcq : c q ≠ 4 := fun z => by
        have := zt_leaf H hq z
        omega
      have hd := (zt_dep H hq).2 hcq
      have hc4 := zt_c4 H hq hcq
      obtain ⟨f1, f2, f3, f4, f5, f6, f7, f8, f9, f10, f11⟩ := zt_fork H hq hcq
      have hlo := hN.2.2.2.1 (c q)
      have hhi := hN.2.2.2.2.1 (c q)
      have ecl : (nI (c q)).toNatClampNeg = c q := nI_clamp (by omega)
      have hin : vp_in (nI (c q)) 4 := vp_in_nI hc4 (by omega)
      refine br_f (nI_ge (b := 7) (by omega) (by omega)) (br_f (nI_ge (by omega) (by omega)) ⟨zy_in ht (by omega), nm_r (zy_akF H hY ht hq hcq) ⟨zy_in ht (by omega), nm_r (zy_nmF H hY ht hq hcq) ?_⟩⟩)
      refine zy_behind H hY ht (p := q + 1) (by omega) (by omega) (nI_1 q) ?_
      by_cases hr : p < e (q + 1)
      · have ih' := fun HG' hb' => ih (q + 1) LW HG' (by omega) (by omega) (by omega) hr hb'
        refine br_f (nI_ge hr (by omega)) ⟨hin, br_c (fun z => ⟨hin, hin, ?_⟩) (fun z => ⟨hin, ?_⟩)⟩
        · intro a ea
          refine nm_r (nI_1 q) (nm_r (e' := nI (d (q + 1))) (by rw [nI_1, f6]) (ih' a ?_))
          intro f hf
          rw [ecl, (hb _ hc4).2, nI_leI (by omega) (by omega)] at z
          refine ⟨by rw [f8]; exact (hb f hf).1, ?_⟩
          rw [ea, ecl, f9]
          by_cases hfc : f = c q
          · rw [hfc, pk_us, if_neg (by omega)]; exact (hb _ hc4).2
          · rw [pk_un hfc, if_neg (fun y => hfc y.1)]; exact (hb f hf).2
        · intro a ea
          refine nm_r (nI_1 q) (nm_r (e' := nI (d (q + 1))) (by rw [nI_1, f6]) (ih' a ?_))
          intro f hf
          rw [ecl, (hb _ hc4).2, nI_leI (by omega) (by omega)] at z
          refine ⟨by rw [f8]; exact (hb f hf).1, ?_⟩
          rw [ea, ecl, f9]
          by_cases hfc : f = c q
          · rw [hfc, pk_us, if_pos ⟨rfl, by omega⟩]
          · rw [pk_un hfc, if_neg (fun y => hfc y.1)]; exact (hb f hf).2
      · have ih' := fun LW' hb' => ih (e (q + 1)) LW' HG (by omega) (by omega) (by omega) (by omega) hb'
        refine br_t (nI_le (by omega) (by omega)) ⟨hin, br_c (fun z => ⟨hin, hin, ?_⟩) (fun z => ⟨hin, ?_⟩)⟩
        · intro a ea
          refine nm_r (e' := nI (d (e (q + 1)))) (by rw [nI_1, f7]) (ih' a ?_)
          intro f hf
          rw [ecl, (hb _ hc4).1, nI_1, nI_leI (by omega) (by omega)] at z
          refine ⟨?_, by rw [f11]; exact (hb f hf).2⟩
          rw [ea, ecl, f10]
          by_cases hfc : f = c q
          · rw [hfc, pk_us, if_neg (by omega)]; exact (hb _ hc4).1
          · rw [pk_un hfc, if_neg (fun y => hfc y.1)]; exact (hb f hf).1
        · intro a ea
          refine nm_r (e' := nI (d (e (q + 1)))) (by rw [nI_1, f7]) (ih' a ?_)
          intro f hf
          rw [ecl, (hb _ hc4).1, nI_1, nI_leI (by omega) (by omega)] at z
          refine ⟨?_, by rw [f11]; exact (hb f hf).2⟩
          rw [ea, ecl, f10, nI_1]
          by_cases hfc : f = c q
          · rw [hfc, pk_us, if_pos ⟨rfl, by omega⟩]
          · rw [pk_un hfc, if_neg (fun y => hfc y.1)]; exact (hb f hf).1
theorem zy_b16 {x1 x3 : Int32} {post : Int32 → SY → Prop} (h : ∀ LW HG, (∀ j, j < 4 → LW j = 0 ∧ HG j = 15) → ∃ n, wY_box_51 post x1 x3 n 0 0 SZ AK NM LW HG) :
    ∀ k q LW HG, q + k = 4 → (∀ j, j < q → LW j = 0 ∧ HG j = 15) → wY_box_16 post x1 x3 (k + 1) (nI q) SZ AK NM LW HG := by
  intro k
  induction k with
  | zero =>
    intro q LW HG hq hb
    have hq' : q = 4 := by omega
    rw [hq'] at hb ⊢
    exact br_t (by decide) (h LW HG hb)
  | succ k ih =>
    intro q LW HG hq hb
    have hin : vp_in (nI q) 4 := vp_in_nI (by omega) (by omega)
    have ecl : (nI q).toNatClampNeg = q := nI_clamp (by omega)
    refine br_f (nI_ge (b := 4) (by omega) (by omega)) ⟨hin, fun a ea => ⟨hin, fun b eb => nm_r (nI_1 q) (ih (q + 1) a b (by omega) ?_)⟩⟩
    intro j hj
    rw [ea, eb, ecl]
    by_cases hjq : j = q
    · rw [hjq, pk_us, pk_us]; exact ⟨rfl, rfl⟩
    · rw [pk_un hjq, pk_un hjq]; exact hb j (by omega)
theorem zy_box (H : zt_ok s c l e d lo hi) (hY : zr_Y t s c l w SZ AK NM) (ht : t < 4) {i : Int32} {post : Int32 → SY → Prop}
    (h1 : ∀ p LW HG, p < s → c p = 4 → nI (zt_lb c p) = i → zy_bx lo hi p LW HG → zt_ne lo hi p → post 1 (SZ, AK, NM, LW, HG))
    (h0 : ∀ p LW HG, p < s → c p = 4 → nI (zt_lb c p) = i → ¬ zt_ne lo hi p → post 0 (SZ, AK, NM, LW, HG))
    (hn : (∀ p, p < s → c p = 4 → nI (zt_lb c p) ≠ i) → post 0 (SZ, AK, NM, LW, HG)) : wpY_box post (SZ, AK, NM, LW, HG) (nI t) i := by
  have hs := H.2.1
  unfold wpY_box
  dsimp only
  refine zy_find H hY ht (fun p hp hc hi' => ?_) (fun z => ?_)
  · refine br_t (nI_pos' (by omega)) ⟨5, ?_⟩
    refine zy_b16 (fun LW HG hb => ?_) 4 0 LW HG rfl (fun j hj => absurd hj (Nat.not_lt_zero _))
    have k := zy_bl (post := post) H hY ht hp hc (fun LW HG hb => zy_b194 H hp hb (h1 p LW HG hp hc hi' hb) (h0 p LW HG hp hc hi')) (e 0) 0 LW HG H.1 (Nat.sub_le _ _) (Nat.zero_le _) (by rw [H.2.2.1]; exact hp)
      (fun f hf => ⟨by rw [H.2.2.2.2.1 f]; exact (hb f hf).1, by rw [H.2.2.2.2.2.1 f]; exact (hb f hf).2⟩)
    rw [H.2.2.2.1] at k
    exact ⟨_, k⟩
  · exact br_f (by decide) (hn z)
theorem zy_box_bad {t i : Int32} {post : Int32 → SY → Prop} (ht : t < 0 ∨ 4 ≤ t) (h : post 0 (SZ, AK, NM, LW, HG)) : wpY_box post (SZ, AK, NM, LW, HG) t i := by
  unfold wpY_box
  dsimp only
  exact zy_find_bad ht (br_f (by decide) h)
theorem zy_value (H : zt_ok s c l e d lo hi) (hY : zr_Y t s c l w SZ AK NM) (ht : t < 4) {i : Int32} {post : Int32 → Prop}
    (h1 : ∀ p, p < s → c p = 4 → nI (zt_lb c p) = i → post (w p)) (hn : (∀ p, p < s → c p = 4 → nI (zt_lb c p) ≠ i) → post 0) : wpY_value post (SZ, AK, NM, LW, HG) (nI t) i := by
  have hs := H.2.1
  unfold wpY_value
  dsimp only
  refine zy_find H hY ht (fun p hp hc hi' => ?_) (fun z => ?_)
  · refine br_t (nI_pos' (by omega)) ⟨zy_in ht (by omega), ?_⟩
    rw [zy_nmL H hY ht hp hc]
    exact h1 p hp hc hi'
  · exact br_f (by decide) (hn z)
theorem zy_value_bad {t i : Int32} {post : Int32 → Prop} (ht : t < 0 ∨ 4 ≤ t) (h : post 0) : wpY_value post (SZ, AK, NM, LW, HG) t i := by
  unfold wpY_value
  dsimp only
  exact zy_find_bad ht (br_f (by decide) h)
theorem zy_tree_t {post : Int32 → Prop} (ht : t < 4) (h : post 1) : wpY_tree post (SZ, AK, NM, LW, HG) (nI t) :=
  br_f (nI_pos (by omega)) (br_f (nI_nlt (a := 3) (by omega) (by omega)) h)
theorem zy_tree_f {t : Int32} {post : Int32 → Prop} (ht : t < 0 ∨ 4 ≤ t) (h : post 0) : wpY_tree post (SZ, AK, NM, LW, HG) t := by
  by_cases h0 : t < 0
  · exact br_t h0 h
  · exact br_f h0 (br_t (Int32.lt_of_lt_of_le (by decide) (ht.resolve_left h0)) h)
theorem zy_point_t {P : Nat} {post : Int32 → Prop} (hP : P < 65536) (h : post 1) : wpY_point post (SZ, AK, NM, LW, HG) (nI P) :=
  br_f (nI_pos (by omega)) (br_f (nI_nlt (a := 65535) (by omega) (by omega)) h)
theorem za_point (x : Int32) : (x < 0 ∨ 65535 < x) ∨ ∃ j : Nat, j < 65536 ∧ x = nI j := by
  rcases pk_ix x (n := 65536) (by omega) with h | h | h
  · exact Or.inl (Or.inl h)
  · exact Or.inl (Or.inr (Int32.lt_of_lt_of_le (by decide) h))
  · exact Or.inr h
theorem zy_point_f {x : Int32} {post : Int32 → Prop} (hx : x < 0 ∨ 65535 < x) (h : post 0) : wpY_point post (SZ, AK, NM, LW, HG) x := by
  by_cases h0 : x < 0
  · exact br_t h0 h
  · exact br_f h0 (br_t (hx.resolve_left h0) h)
end
end
section
/-! X's small questions, hasPoint, holds, findLeaf -/
section
variable {t s : Nat} {c l e d : Nat → Nat} {lo hi : Nat → Nat → Nat} {w : Nat → Int32} {LC LV FA BL BG AS : Nat → Int32}
theorem zx_slot {post : Int32 → Prop} {i : Nat} (h : post (nI (8 * t + i))) : wpX_slot post (nI t) (nI i) := by
  have k : post (nI t * 8 + nI i) := by rw [za_8]; exact h
  exact k
theorem zx_isTree_t {post : Int32 → Prop} (ht : t < 4) (h : post 1) : wpX_isTree post (nI t) :=
  br_f (nI_pos (by omega)) (br_f (nI_ge (b := 4) ht (by omega)) h)
theorem zx_isTree_f {t : Int32} {post : Int32 → Prop} (ht : t < 0 ∨ 4 ≤ t) (h : post 0) : wpX_isTree post t := by
  by_cases h0 : t < 0
  · exact br_t h0 h
  · exact br_f h0 (br_t (ht.resolve_left h0) h)
theorem zx_isFeature_t {post : Int32 → Prop} (ht : t < 4) (h : post 1) : wpX_isFeature post (nI t) :=
  br_f (nI_pos (by omega)) (br_f (nI_ge (b := 4) ht (by omega)) h)
theorem zx_isFeature_f {t : Int32} {post : Int32 → Prop} (ht : t < 0 ∨ 4 ≤ t) (h : post 0) : wpX_isFeature post t := by
  by_cases h0 : t < 0
  · exact br_t h0 h
  · exact br_f h0 (br_t (ht.resolve_left h0) h)
theorem zx_isPoint_t {P : Nat} {post : Int32 → Prop} (hP : P < 65536) (h : post 1) : wpX_isPoint post (nI P) :=
  br_f (nI_pos (by omega)) (br_f (nI_nlt (a := 65535) (by omega) (by omega)) h)
theorem zx_isPoint_f {x : Int32} {post : Int32 → Prop} (hx : x < 0 ∨ 65535 < x) (h : post 0) : wpX_isPoint post x := by
  by_cases h0 : x < 0
  · exact br_t h0 h
  · exact br_f h0 (br_t (hx.resolve_left h0) h)
theorem zx_isLeaf_t {post : Int32 → Prop} {n i : Nat} (ht : t < 4) (hn : LC t = nI n) (hi : i < n) (h8 : n ≤ 8) (h : post 1) : wpX_isLeaf post (LC, LV, FA, BL, BG, AS) (nI t) (nI i) := by
  have et : LC (nI t).toNatClampNeg = nI n := by rw [nI_clamp (by omega)]; exact hn
  unfold wpX_isLeaf
  dsimp only
  refine zx_isTree_t ht (br_f (by decide) (br_f (nI_pos (by omega)) ⟨vp_in_nI ht (by omega), br_f ?_ h⟩))
  rw [et]; exact nI_ge hi (by omega)
theorem zx_isLeaf_n {post : Int32 → Prop} {n : Nat} {i : Int32} (ht : t < 4) (hn : LC t = nI n) (hi : i < 0 ∨ nI n ≤ i) (h : post 0) : wpX_isLeaf post (LC, LV, FA, BL, BG, AS) (nI t) i := by
  have et : LC (nI t).toNatClampNeg = nI n := by rw [nI_clamp (by omega)]; exact hn
  unfold wpX_isLeaf
  dsimp only
  refine zx_isTree_t ht (br_f (by decide) ?_)
  by_cases h0 : i < 0
  · exact br_t h0 h
  · refine br_f h0 ⟨vp_in_nI ht (by omega), br_t ?_ h⟩
    rw [et]; exact hi.resolve_left h0
theorem zx_isLeaf_b {post : Int32 → Prop} {t i : Int32} (ht : t < 0 ∨ 4 ≤ t) (h : post 0) : wpX_isLeaf post (LC, LV, FA, BL, BG, AS) t i := by
  unfold wpX_isLeaf
  dsimp only
  exact zx_isTree_f ht (br_t rfl h)
theorem za_q4 {q : Nat} (h : q < 4) : q = 0 ∨ q = 1 ∨ q = 2 ∨ q = 3 := by omega
theorem zx_hp_l (H : zt_ok s c l e d lo hi) {p a : Nat} (hp : p < s) (ha : a < 32) (hb : ∀ f, f < 4 → BL (4 * a + f) = nI (lo p f) ∧ BG (4 * a + f) = nI (hi p f)) {post : Int32 → Prop} (h1 : zt_ne lo hi p → post 1) (h0 : ¬ zt_ne lo hi p → post 0) :
    ∀ k q, q + k = 4 → (∀ j, j < q → lo p j ≤ hi p j) → wX_hasPoint_2 post (nI a) LC LV FA BL BG AS (k + 1) (nI q) := by
  intro k
  induction k with
  | zero =>
    intro q hq hj
    have hq' : q = 4 := by omega
    rw [hq'] at hj ⊢
    exact br_t (by decide) (h1 ⟨hj 0 (by omega), hj 1 (by omega), hj 2 (by omega), hj 3 (by omega)⟩)
  | succ k ih =>
    intro q hq hj
    have ecl : (nI (4 * a + q)).toNatClampNeg = 4 * a + q := nI_clamp (by omega)
    have hin : vp_in (nI (4 * a + q)) 128 := vp_in_nI (by omega) (by omega)
    have hl := (zt_node H hp).2.2.2.1 q
    have hh := (zt_node H hp).2.2.2.2.1 q
    have K : BL (nI (4 * a + q)).toNatClampNeg ≤ BG (nI (4 * a + q)).toNatClampNeg ↔ lo p q ≤ hi p q := by
      rw [ecl, (hb q (by omega)).1, (hb q (by omega)).2, nI_leI (by omega) (by omega)]
    refine br_f (nI_ge (b := 4) (by omega) (by omega)) (nm_r (za_4 a q) ⟨hin, hin, br_c (fun z => nm_r (nI_1 q) (ih (q + 1) (by omega) ?_)) (fun z => h0 (fun y => z (K.mpr ?_)))⟩)
    · intro j hj2
      by_cases hjq : j = q
      · rw [hjq]; exact K.mp z
      · exact hj j (by omega)
    · rcases za_q4 (q := q) (by omega) with z | z | z | z
      · rw [z]; exact y.1
      · rw [z]; exact y.2.1
      · rw [z]; exact y.2.2.1
      · rw [z]; exact y.2.2.2
theorem zx_hasPoint (H : zt_ok s c l e d lo hi) {p a : Nat} (hp : p < s) (ha : a < 32) (hb : ∀ f, f < 4 → BL (4 * a + f) = nI (lo p f) ∧ BG (4 * a + f) = nI (hi p f)) {post : Int32 → Prop} (h1 : zt_ne lo hi p → post 1) (h0 : ¬ zt_ne lo hi p → post 0) : wpX_hasPoint post (LC, LV, FA, BL, BG, AS) (nI a) :=
  ⟨5, zx_hp_l H hp ha hb h1 h0 4 0 rfl (fun j hj => absurd hj (Nat.not_lt_zero _))⟩
theorem zx_feat {P q : Nat} (hP : P < 65536) (hq : q < 4) {post : Int32 → Prop} (h : post (nI (za_f P q))) : wpX_featureOf post (nI P) (nI q) := by
  have k : post ((nI P >>> ((nI q * 4) &&& 31)) &&& 15) := by
    rw [show nI q * 4 = nI (4 * q) from (by rw [show (4 : Int32) = nI 4 from rfl, pk_mul, Nat.mul_comm]), za_feat hP hq]; exact h
  exact k
theorem zx_ho_l (H : zt_ok s c l e d lo hi) {p a P : Nat} (hP : P < 65536) (hp : p < s) (ha : a < 32) (hb : ∀ f, f < 4 → BL (4 * a + f) = nI (lo p f) ∧ BG (4 * a + f) = nI (hi p f)) {post : Int32 → Prop} (h1 : zt_in lo hi (za_f P) p → post 1) (h0 : ¬ zt_in lo hi (za_f P) p → post 0) :
    ∀ k q, q + k = 4 → (∀ j, j < q → lo p j ≤ za_f P j ∧ za_f P j ≤ hi p j) → wX_holds_2 post (nI a) (nI P) LC LV FA BL BG AS (k + 1) (nI q) := by
  intro k
  induction k with
  | zero =>
    intro q hq hj
    have hq' : q = 4 := by omega
    rw [hq'] at hj ⊢
    exact br_t (by decide) (h1 (fun f hf => hj f hf))
  | succ k ih =>
    intro q hq hj
    have hq4 : q < 4 := by omega
    have ecl : (nI (4 * a + q)).toNatClampNeg = 4 * a + q := nI_clamp (by omega)
    have hin : vp_in (nI (4 * a + q)) 128 := vp_in_nI (by omega) (by omega)
    have hl := (zt_node H hp).2.2.2.1 q
    have hh := (zt_node H hp).2.2.2.2.1 q
    have hx := za_f15 P q
    have K1 : nI (za_f P q) < BL (nI (4 * a + q)).toNatClampNeg ↔ za_f P q < lo p q := by
      rw [ecl, (hb q hq4).1, nI_ltI (by omega) (by omega)]
    have K2 : nI (za_f P q) ≤ BG (nI (4 * a + q)).toNatClampNeg ↔ za_f P q ≤ hi p q := by
      rw [ecl, (hb q hq4).2, nI_leI (by omega) (by omega)]
    refine br_f (nI_ge (b := 4) (by omega) (by omega)) (nm_r (za_4 a q) (zx_feat hP hq4 ⟨hin, br_c (fun z => h0 (fun y => ?_)) (fun z => ⟨hin, br_c (fun z2 => nm_r (nI_1 q) (ih (q + 1) (by omega) ?_)) (fun z2 => h0 (fun y => ?_))⟩)⟩))
    · have := K1.mp z
      have := (y q hq4).1
      omega
    · intro j hj2
      by_cases hjq : j = q
      · rw [hjq]; exact ⟨Nat.not_lt.mp (fun x => z (K1.mpr x)), K2.mp z2⟩
      · exact hj j (by omega)
    · exact z2 (K2.mpr (y q hq4).2)
theorem zx_holds (H : zt_ok s c l e d lo hi) {p a P : Nat} (hP : P < 65536) (hp : p < s) (ha : a < 32) (hb : ∀ f, f < 4 → BL (4 * a + f) = nI (lo p f) ∧ BG (4 * a + f) = nI (hi p f)) {post : Int32 → Prop} (h1 : zt_in lo hi (za_f P) p → post 1) (h0 : ¬ zt_in lo hi (za_f P) p → post 0) : wpX_holds post (LC, LV, FA, BL, BG, AS) (nI a) (nI P) :=
  ⟨5, zx_ho_l H hP hp ha hb h1 h0 4 0 rfl (fun j hj => absurd hj (Nat.not_lt_zero _))⟩
theorem zx_fl (H : zt_ok s c l e d lo hi) (hX : zr_X t s c d lo hi w LC LV FA BL BG AS) (ht : t < 4) {P p : Nat} (hP : P < 65536) (hp : p < s) (hc : c p = 4) (hx : zt_in lo hi (za_f P) p) {post : Int32 → Prop} (h : post (nI (zt_lb c p))) :
    ∀ k q, q + k = zt_lb c s - 1 → q ≤ zt_lb c p → wX_findLeaf_12 post (nI t) (nI P) (nI (zt_lb c s - 1)) LC LV FA BL BG AS (k + 1) (nI q) := by
  have h8 := zt_lb_8 H
  have hlp := zt_lb_lt hp hc
  intro k
  induction k with
  | zero =>
    intro q hq hqp
    rw [show zt_lb c s - 1 = zt_lb c p from by omega, show q = zt_lb c p from by omega]
    exact br_t (nI_le (Nat.le_refl _) (by omega)) h
  | succ k ih =>
    intro q hq hqp
    obtain ⟨p', hp', hc', hl'⟩ := zt_lb_ex (c := c) s q (by omega)
    have hb := (hX.2.1 p' hp' hc').2.2
    rw [hl'] at hb
    refine br_f (nI_ge (by omega) (by omega)) (zx_slot (zx_holds H hP hp' (by omega) hb (fun z => br_f (by decide) ?_) (fun z => br_t rfl (nm_r (nI_1 q) (ih (q + 1) (by omega) ?_)))))
    · rw [← hl', zt_one H hp' hp hc' hc z hx]; exact h
    · rcases Nat.lt_or_eq_of_le hqp with a | a
      · exact a
      · have := zt_lb_inj hc' hc (by omega)
        rw [this] at z
        exact absurd hx z
theorem zx_findLeaf (H : zt_ok s c l e d lo hi) (hX : zr_X t s c d lo hi w LC LV FA BL BG AS) (ht : t < 4) {P p : Nat} (hP : P < 65536) (hp : p < s) (hc : c p = 4) (hx : zt_in lo hi (za_f P) p) {post : Int32 → Prop} (h : post (nI (zt_lb c p))) : wpX_findLeaf post (LC, LV, FA, BL, BG, AS) (nI t) (nI P) := by
  have h1 := zt_lb_pos H
  have et : LC (nI t).toNatClampNeg - 1 = nI (zt_lb c s - 1) := by
    rw [nI_clamp (by omega), hX.1, show (1 : Int32) = nI 1 from rfl, pk_sub h1]
  exact ⟨vp_in_nI ht (by omega), nm_r et ⟨zt_lb c s - 1 + 1, zx_fl H hX ht hP hp hc hx h (zt_lb c s - 1) 0 (Nat.zero_add _) (Nat.zero_le _)⟩⟩
end
end
section
/-! X's makeOneLeaf, copyLeaf, doubleLeaf -/
section
variable {t n i : Nat} {LC LV FA BL BG AS : Nat → Int32}
theorem zx_mk_l (ht : t < 4) {post : SX → Prop}
    (h : ∀ BL' BG' AS', (∀ f, f < 4 → BL' (4 * (8 * t) + f) = 0 ∧ BG' (4 * (8 * t) + f) = 15 ∧ AS' (4 * t + f) = 0) → (∀ k, (k < 4 * (8 * t) ∨ 4 * (8 * t) + 4 ≤ k) → BL' k = BL k ∧ BG' k = BG k) → (∀ k, (k < 4 * t ∨ 4 * t + 4 ≤ k) → AS' k = AS k) → post (LC, LV, FA, BL', BG', AS')) :
    ∀ k q BL' BG' AS', q + k = 4 → (∀ f, f < q → BL' (4 * (8 * t) + f) = 0 ∧ BG' (4 * (8 * t) + f) = 15 ∧ AS' (4 * t + f) = 0) → (∀ k, (k < 4 * (8 * t) ∨ 4 * (8 * t) + 4 ≤ k) → BL' k = BL k ∧ BG' k = BG k) → (∀ k, (k < 4 * t ∨ 4 * t + 4 ≤ k) → AS' k = AS k) →
      wX_makeOneLeaf_29 post (nI t) (nI (8 * t)) (k + 1) (nI q) LC LV FA BL' BG' AS' := by
  intro k
  induction k with
  | zero =>
    intro q BL' BG' AS' hq h1 h2 h3
    have hq' : q = 4 := by omega
    rw [hq'] at h1 ⊢
    exact br_t (by decide) (h BL' BG' AS' h1 h2 h3)
  | succ k ih =>
    intro q BL' BG' AS' hq h1 h2 h3
    have hin : vp_in (nI (8 * t) * 4 + nI q) 128 := by rw [za_4]; exact vp_in_nI (by omega) (by omega)
    have hin2 : vp_in (nI t * 4 + nI q) 16 := by rw [za_4]; exact vp_in_nI (by omega) (by omega)
    have ecl : (nI (8 * t) * 4 + nI q).toNatClampNeg = 4 * (8 * t) + q := by rw [za_4, nI_clamp (by omega)]
    have ecl2 : (nI t * 4 + nI q).toNatClampNeg = 4 * t + q := by rw [za_4, nI_clamp (by omega)]
    refine br_f (nI_ge (b := 4) (by omega) (by omega)) ⟨hin, fun a ea => ⟨hin, fun b eb => ⟨hin2, fun g eg => nm_r (nI_1 q) (ih (q + 1) a b g (by omega) ?_ ?_ ?_)⟩⟩⟩
    · intro f hf
      rw [ea, eb, eg, ecl, ecl2]
      by_cases hfq : f = q
      · rw [hfq, pk_us, pk_us, pk_us]; exact ⟨rfl, rfl, rfl⟩
      · rw [pk_un (by omega), pk_un (by omega), pk_un (by omega)]; exact h1 f (by omega)
    · intro j hj
      rw [ea, eb, ecl, pk_un (by omega), pk_un (by omega)]; exact h2 j hj
    · intro j hj
      rw [eg, ecl2, pk_un (by omega)]; exact h3 j hj
theorem zx_mk (ht : t < 4) {post : SX → Prop}
    (h : ∀ BL' BG' AS', (∀ f, f < 4 → BL' (4 * (8 * t) + f) = 0 ∧ BG' (4 * (8 * t) + f) = 15 ∧ AS' (4 * t + f) = 0) → (∀ k, (k < 4 * (8 * t) ∨ 4 * (8 * t) + 4 ≤ k) → BL' k = BL k ∧ BG' k = BG k) → (∀ k, (k < 4 * t ∨ 4 * t + 4 ≤ k) → AS' k = AS k) → post (upd LC t 1, upd LV (8 * t) 0, upd FA (8 * t) 0, BL', BG', AS')) :
    wpX_makeOneLeaf post (LC, LV, FA, BL, BG, AS) (nI t) := by
  have et : (nI t).toNatClampNeg = t := nI_clamp (by omega)
  have e8 : (nI (8 * t)).toNatClampNeg = 8 * t := nI_clamp (by omega)
  have hin : vp_in (nI (8 * t)) 32 := vp_in_nI (by omega) (by omega)
  unfold wpX_makeOneLeaf
  dsimp only
  refine zx_slot (i := 0) ⟨vp_in_nI ht (by omega), ?_⟩
  rw [et]
  refine nm_e ⟨hin, ?_⟩
  rw [show 8 * t + 0 = 8 * t from rfl, e8]
  refine nm_e ⟨hin, nm_e ⟨5, ?_⟩⟩
  exact zx_mk_l ht h 4 0 BL BG AS rfl (fun j hj => absurd hj (Nat.not_lt_zero _)) (fun _ _ => ⟨rfl, rfl⟩) (fun _ _ => rfl)
theorem zx_cp_l {a : Nat} (ha : a + 1 < 32) {post : SX → Prop}
    (h : ∀ BL' BG', (∀ f, f < 4 → BL' (4 * (a + 1) + f) = BL (4 * a + f) ∧ BG' (4 * (a + 1) + f) = BG (4 * a + f)) → (∀ k, (k < 4 * (a + 1) ∨ 4 * (a + 1) + 4 ≤ k) → BL' k = BL k ∧ BG' k = BG k) → post (LC, LV, FA, BL', BG', AS)) :
    ∀ k q BL' BG', q + k = 4 → (∀ f, f < q → BL' (4 * (a + 1) + f) = BL (4 * a + f) ∧ BG' (4 * (a + 1) + f) = BG (4 * a + f)) → (∀ k, (k < 4 * (a + 1) ∨ 4 * (a + 1) + 4 ≤ k) → BL' k = BL k ∧ BG' k = BG k) →
      wX_copyLeaf_26 post (nI a) (nI (a + 1)) (k + 1) (nI q) LC LV FA BL' BG' AS := by
  intro k
  induction k with
  | zero =>
    intro q BL' BG' hq h1 h2
    have hq' : q = 4 := by omega
    rw [hq'] at h1 ⊢
    exact br_t (by decide) (h BL' BG' h1 h2)
  | succ k ih =>
    intro q BL' BG' hq h1 h2
    have hin : vp_in (nI a * 4 + nI q) 128 := by rw [za_4]; exact vp_in_nI (by omega) (by omega)
    have hin2 : vp_in (nI (a + 1) * 4 + nI q) 128 := by rw [za_4]; exact vp_in_nI (by omega) (by omega)
    have ecl : (nI a * 4 + nI q).toNatClampNeg = 4 * a + q := by rw [za_4, nI_clamp (by omega)]
    have ecl2 : (nI (a + 1) * 4 + nI q).toNatClampNeg = 4 * (a + 1) + q := by rw [za_4, nI_clamp (by omega)]
    refine br_f (nI_ge (b := 4) (by omega) (by omega)) ⟨hin, hin2, fun x ex => ⟨hin, hin2, fun y ey => nm_r (nI_1 q) (ih (q + 1) x y (by omega) ?_ ?_)⟩⟩
    · intro f hf
      rw [ex, ey, ecl, ecl2]
      by_cases hfq : f = q
      · rw [hfq, pk_us, pk_us]; exact h2 (4 * a + q) (by omega)
      · rw [pk_un (by omega), pk_un (by omega)]; exact h1 f (by omega)
    · intro j hj
      rw [ex, ey, ecl2, pk_un (by omega), pk_un (by omega)]; exact h2 j hj
theorem zx_cp {a : Nat} (ha : a + 1 < 32) {post : SX → Prop} {x y : Int32} (hx : x = nI a) (hy : y = nI (a + 1))
    (h : ∀ BL' BG', (∀ f, f < 4 → BL' (4 * (a + 1) + f) = BL (4 * a + f) ∧ BG' (4 * (a + 1) + f) = BG (4 * a + f)) → (∀ k, (k < 4 * (a + 1) ∨ 4 * (a + 1) + 4 ≤ k) → BL' k = BL k ∧ BG' k = BG k) → post (LC, upd LV (a + 1) (LV a), upd FA (a + 1) (FA a), BL', BG', AS)) :
    wpX_copyLeaf post (LC, LV, FA, BL, BG, AS) x y := by
  subst hx hy
  have e1 : (nI a).toNatClampNeg = a := nI_clamp (by omega)
  have e2 : (nI (a + 1)).toNatClampNeg = a + 1 := nI_clamp (by omega)
  have i1 : vp_in (nI a) 32 := vp_in_nI (by omega) (by omega)
  have i2 : vp_in (nI (a + 1)) 32 := vp_in_nI (by omega) (by omega)
  unfold wpX_copyLeaf
  dsimp only
  rw [e1, e2]
  refine ⟨i1, i2, nm_e ⟨i1, i2, nm_e ⟨5, ?_⟩⟩⟩
  exact zx_cp_l ha h 4 0 BL BG rfl (fun j hj => absurd hj (Nat.not_lt_zero _)) (fun _ _ => ⟨rfl, rfl⟩)
/-- B is A with the cells behind lo, up to hi, moved up by one -/
def zx_sh (a b : Nat) (A B : Nat → Int32) : Prop := ∀ k, B k = if a < k ∧ k ≤ b then A (k - 1) else A k
def zx_s4 (a b : Nat) (A B : Nat → Int32) : Prop := ∀ m f, f < 4 → B (4 * m + f) = if a < m ∧ m ≤ b then A (4 * (m - 1) + f) else A (4 * m + f)
theorem zx_sh_st {a b : Nat} {A B : Nat → Int32} (hab : a + 1 ≤ b) (h : zx_sh (a + 1) b A B) : zx_sh a b A (upd B (a + 1) (B a)) := by
  intro k
  by_cases hk : k = a + 1
  · rw [hk, pk_us, h a, if_neg (by omega), if_pos (by omega)]; rfl
  · rw [pk_un hk, h k]
    by_cases hk2 : a + 1 < k ∧ k ≤ b
    · rw [if_pos hk2, if_pos (by omega)]
    · rw [if_neg hk2, if_neg (by omega)]
theorem zx_s4_st {a b : Nat} {A B C : Nat → Int32} (hab : a + 1 ≤ b) (h : zx_s4 (a + 1) b A B) (h1 : ∀ f, f < 4 → C (4 * (a + 1) + f) = B (4 * a + f)) (h2 : ∀ k, (k < 4 * (a + 1) ∨ 4 * (a + 1) + 4 ≤ k) → C k = B k) : zx_s4 a b A C := by
  intro m f hf
  by_cases hk : m = a + 1
  · rw [hk, h1 f hf, h a f hf, if_neg (by omega), if_pos (by omega)]; rfl
  · rw [h2 _ (by omega), h m f hf]
    by_cases hk2 : a + 1 < m ∧ m ≤ b
    · rw [if_pos hk2, if_pos (by omega)]
    · rw [if_neg hk2, if_neg (by omega)]
theorem zx_db_l (ht : t < 4) (hn : LC t = nI n) (hin : i < n) (hn7 : n ≤ 7) {post : SX → Prop}
    (h : ∀ LV' FA' BL' BG', zx_sh (8 * t + i) (8 * t + n) LV LV' → zx_sh (8 * t + i) (8 * t + n) FA FA' → zx_s4 (8 * t + i) (8 * t + n) BL BL' → zx_s4 (8 * t + i) (8 * t + n) BG BG' → post (upd LC t (nI (n + 1)), LV', FA', BL', BG', AS)) :
    ∀ k LV' FA' BL' BG', i + k ≤ n → zx_sh (8 * t + (i + k)) (8 * t + n) LV LV' → zx_sh (8 * t + (i + k)) (8 * t + n) FA FA' → zx_s4 (8 * t + (i + k)) (8 * t + n) BL BL' → zx_s4 (8 * t + (i + k)) (8 * t + n) BG BG' →
      wX_doubleLeaf_7 post (nI t) (nI i) (k + 1) (nI (i + k)) LC LV' FA' BL' BG' AS := by
  have et : (nI t).toNatClampNeg = t := nI_clamp (by omega)
  have it : vp_in (nI t) 4 := vp_in_nI ht (by omega)
  intro k
  induction k with
  | zero =>
    intro LV' FA' BL' BG' hk h1 h2 h3 h4
    refine br_t (nI_le (Nat.le_refl _) (by omega)) ⟨it, it, nm_r ?_ (h LV' FA' BL' BG' h1 h2 h3 h4)⟩
    rw [et, hn, nI_1]
  | succ k ih =>
    intro LV' FA' BL' BG' hk h1 h2 h3 h4
    have e1 : nI (8 * t + (i + (k + 1))) - 1 = nI (8 * t + (i + k)) := nI_pred (8 * t + (i + k))
    refine br_f (nI_ge (by omega) (by omega)) (zx_slot (zx_cp (a := 8 * t + (i + k)) (by omega) e1 rfl (fun BL2 BG2 g1 g2 => nm_r (pk_m1 (i + k)) (ih _ _ BL2 BG2 (by omega) ?_ ?_ ?_ ?_))))
    · exact zx_sh_st (by omega) h1
    · exact zx_sh_st (by omega) h2
    · exact zx_s4_st (by omega) h3 (fun f hf => (g1 f hf).1) (fun k hk => (g2 k hk).1)
    · exact zx_s4_st (by omega) h4 (fun f hf => (g1 f hf).2) (fun k hk => (g2 k hk).2)
theorem zx_sh_0 (a : Nat) (A : Nat → Int32) : zx_sh a a A A := fun k => by rw [if_neg (by omega)]
theorem zx_s4_0 (a : Nat) (A : Nat → Int32) : zx_s4 a a A A := fun m f _ => by rw [if_neg (by omega)]
theorem zx_db (ht : t < 4) (hn : LC t = nI n) (hin : i < n) (hn7 : n ≤ 7) {post : SX → Prop}
    (h : ∀ LV' FA' BL' BG', zx_sh (8 * t + i) (8 * t + n) LV LV' → zx_sh (8 * t + i) (8 * t + n) FA FA' → zx_s4 (8 * t + i) (8 * t + n) BL BL' → zx_s4 (8 * t + i) (8 * t + n) BG BG' → post (upd LC t (nI (n + 1)), LV', FA', BL', BG', AS)) :
    wpX_doubleLeaf post (LC, LV, FA, BL, BG, AS) (nI t) (nI i) := by
  obtain ⟨k, rfl⟩ : ∃ k, n = i + k := ⟨n - i, by omega⟩
  have et : LC (nI t).toNatClampNeg = nI (i + k) := by rw [nI_clamp (by omega)]; exact hn
  exact ⟨vp_in_nI ht (by omega), nm_r et ⟨k + 1, zx_db_l ht hn hin hn7 h k LV FA BL BG (Nat.le_refl _) (zx_sh_0 _ _) (zx_sh_0 _ _) (zx_s4_0 _ _) (zx_s4_0 _ _)⟩⟩
end
end
section
/-! constructors, clear, leaves, value, setValue, asks -/
section
variable {t s : Nat} {c l e d : Nat → Nat} {lo hi : Nat → Nat → Nat} {w : Nat → Int32} {SZ AK NM LW HG LC LV FA BL BG AS : Nat → Int32}
def zx_i1 (t : Nat) (LC LV FA BL BG AS : Nat → Int32) : Prop := LC t = 1 ∧ LV (8 * t) = 0 ∧ FA (8 * t) = 0 ∧ ∀ f, f < 4 → BL (4 * (8 * t) + f) = 0 ∧ BG (4 * (8 * t) + f) = 15 ∧ AS (4 * t + f) = 0
theorem zx_init_l {post : SX → Prop} (h : ∀ LC LV FA BL BG AS, (∀ t, t < 4 → zx_i1 t LC LV FA BL BG AS) → post (LC, LV, FA, BL, BG, AS)) :
    ∀ k q LC LV FA BL BG AS, q + k = 4 → (∀ t, t < q → zx_i1 t LC LV FA BL BG AS) → wX_init_55 post (k + 1) (nI q) LC LV FA BL BG AS := by
  intro k
  induction k with
  | zero =>
    intro q LC LV FA BL BG AS hq hI
    have hq' : q = 4 := by omega
    rw [hq'] at hI ⊢
    exact br_t (by decide) (h LC LV FA BL BG AS hI)
  | succ k ih =>
    intro q LC LV FA BL BG AS hq hI
    refine br_f (nI_ge (b := 4) (by omega) (by omega)) (zx_mk (by omega) (fun BL' BG' AS' g1 g2 g3 => nm_r (nI_1 q) (ih (q + 1) _ _ _ BL' BG' AS' (by omega) ?_)))
    intro t ht
    by_cases htq : t = q
    · subst htq
      exact ⟨pk_us, pk_us, pk_us, g1⟩
    · obtain ⟨a1, a2, a3, a4⟩ := hI t (by omega)
      refine ⟨by rw [pk_un htq]; exact a1, by rw [pk_un (by omega)]; exact a2, by rw [pk_un (by omega)]; exact a3, fun f hf => ?_⟩
      rw [(g2 _ (by omega)).1, (g2 _ (by omega)).2, g3 _ (by omega)]
      exact a4 f hf
theorem zy_init_l {post : SY → Prop} (h : ∀ SZ AK, (∀ t, t < 4 → SZ t = 1 ∧ AK (15 * t) = -1) → post (SZ, AK, NM, LW, HG)) :
    ∀ k q SZ AK, q + k = 4 → (∀ t, t < q → SZ t = 1 ∧ AK (15 * t) = -1) → wY_init_43 post (k + 1) (nI q) SZ AK NM LW HG := by
  intro k
  induction k with
  | zero =>
    intro q SZ AK hq hI
    have hq' : q = 4 := by omega
    rw [hq'] at hI ⊢
    exact br_t (by decide) (h SZ AK hI)
  | succ k ih =>
    intro q SZ AK hq hI
    have e15 : 15 * nI q = nI (15 * q) := pk_mul 15 q
    refine br_f (nI_ge (b := 4) (by omega) (by omega)) ⟨vp_in_nI (by omega) (by omega), fun a ea => ⟨by rw [e15]; exact vp_in_nI (by omega) (by omega), fun b eb => nm_r (nI_1 q) (ih (q + 1) a b (by omega) ?_)⟩⟩
    intro t ht
    rw [ea, eb, e15, nI_clamp (by omega), nI_clamp (by omega)]
    by_cases htq : t = q
    · rw [htq]; exact ⟨pk_us, pk_us⟩
    · rw [pk_un htq, pk_un (by omega)]; exact hI t (by omega)
theorem zr_T_1 (hx : zx_i1 t LC LV FA BL BG AS) (h1 : SZ t = 1) (h2 : AK (15 * t) = -1) (h3 : NM (15 * t) = 0) : zr_T t LC LV FA BL BG AS SZ AK NM :=
  ⟨1, _, _, _, _, _, _, _, zt_one1, zr_X_1 hx.1 hx.2.1 hx.2.2.1 hx.2.2.2, zr_Y_1 h1 h2 h3⟩
theorem zr_T_fr {LC' LV' FA' BL' BG' AS' SZ' AK' NM' : Nat → Int32} (h : zr_T t LC LV FA BL BG AS SZ AK NM) (h1 : LC' t = LC t) (h2 : ∀ j, j < 8 → LV' (8 * t + j) = LV (8 * t + j)) (h3 : ∀ j, j < 8 → FA' (8 * t + j) = FA (8 * t + j))
    (h4 : ∀ j f, j < 8 → f < 4 → BL' (4 * (8 * t + j) + f) = BL (4 * (8 * t + j) + f)) (h5 : ∀ j f, j < 8 → f < 4 → BG' (4 * (8 * t + j) + f) = BG (4 * (8 * t + j) + f)) (h6 : ∀ f, f < 4 → AS' (4 * t + f) = AS (4 * t + f))
    (h7 : SZ' t = SZ t) (h8 : ∀ p, p < 15 → AK' (15 * t + p) = AK (15 * t + p)) (h9 : ∀ p, p < 15 → NM' (15 * t + p) = NM (15 * t + p)) : zr_T t LC' LV' FA' BL' BG' AS' SZ' AK' NM' := by
  obtain ⟨s, c, l, e, d, lo, hi, w, H, hX, hY⟩ := h
  exact ⟨s, c, l, e, d, lo, hi, w, H, zr_X_fr H hX h1 h2 h3 h4 h5 h6, zr_Y_fr H hY h7 h8 h9⟩
theorem zt_lbI (H : zt_ok s c l e d lo hi) {p q : Nat} (hp : p < s) (hq : q < s) (hc : c p = 4) (hc' : c q = 4) (h : nI (zt_lb c p) = nI (zt_lb c q)) : p = q := by
  have a1 := zt_lb_lt hp hc
  have a2 := zt_lb_lt hq hc'
  have a3 := zt_lb_8 H
  rw [nI_eq (by omega) (by omega)] at h
  exact zt_lb_inj hc hc' h
theorem zt_disp (H : zt_ok s c l e d lo hi) (i : Int32) : ((i < 0 ∨ nI (zt_lb c s) ≤ i) ∧ ∀ p, p < s → c p = 4 → nI (zt_lb c p) ≠ i) ∨ ∃ p, p < s ∧ c p = 4 ∧ i = nI (zt_lb c p) := by
  have a3 := zt_lb_8 H
  rcases pk_ix i (n := zt_lb c s) (by omega) with h | h | ⟨j, hj, h⟩
  · refine Or.inl ⟨Or.inl h, fun p hp hc z => ?_⟩
    have := zt_lb_lt hp hc
    rw [← z] at h
    exact nI_pos (by omega) h
  · refine Or.inl ⟨Or.inr h, fun p hp hc z => ?_⟩
    have := zt_lb_lt hp hc
    rw [← z] at h
    exact nI_ge this (by omega) h
  · obtain ⟨p, h1, h2, h3⟩ := zt_lb_ex (c := c) s j hj
    exact Or.inr ⟨p, h1, h2, by rw [h3]; exact h⟩
theorem zy_leaves {post : Int32 → Prop} (ht : t < 4) (hS : SZ t = nI s) (hs : s ≤ 15) (h : post (nI ((s + 1) / 2))) : wpY_leaves post (SZ, AK, NM, LW, HG) (nI t) := by
  unfold wpY_leaves
  dsimp only
  refine zy_tree_t ht (br_f (by decide) ⟨vp_in_nI ht (by omega), by decide, ?_⟩)
  rw [nI_clamp (by omega), hS, nI_1, show (2 : Int32) = nI 2 from rfl, pk_div (by omega) (by omega) (by omega)]
  exact h
theorem zy_asks_l {f : Int32} {post : Int32 → Prop} (h : (f < 0 → post (-1)) ∧ (¬ f < 0 → ((f ≤ 3 → post (zn_y SZ AK f 60)) ∧ (¬ f ≤ 3 → post (-1))))) :
    ∀ k q, q + k = 60 → wY_asks_4 post f SZ AK NM LW HG (k + 1) (zn_y SZ AK f q) (nI q) := by
  intro k
  induction k with
  | zero =>
    intro q hq
    have hq' : q = 60 := by omega
    rw [hq']
    exact br_t (by decide) h
  | succ k ih =>
    intro q hq
    have hi := ih (q + 1) (by omega)
    have e1 : nI q / 15 = nI (q / 15) := pk_div (d := 15) (by omega) (by omega) (by omega)
    have e2 : nI q - nI q / 15 * 15 = nI (q % 15) := pk_rem (d := 15) (by omega) (by omega) (by omega)
    have e3 : (nI q / 15).toNatClampNeg = q / 15 := by rw [e1, nI_clamp (by omega)]
    have e4 : (nI q).toNatClampNeg = q := nI_clamp (by omega)
    have es : zn_y SZ AK f (q + 1) = if nI (q % 15) < SZ (q / 15) ∧ AK q = f then zn_y SZ AK f q + 1 else zn_y SZ AK f q := rfl
    rw [es] at hi
    refine br_f (nI_ge (b := 60) (by omega) (by omega)) ⟨by decide, by decide, by rw [e1]; exact vp_in_nI (by omega) (by omega), ?_⟩
    rw [e3, e2]
    refine br_c (fun z => nm_r (nI_1 q) ?_) (fun z => ⟨vp_in_nI (by omega) (by omega), ?_⟩)
    · rw [if_neg (fun y => absurd y.1 (Int32.not_lt.mpr z))] at hi
      exact hi
    · rw [e4]
      have z' : nI (q % 15) < SZ (q / 15) := Int32.not_le.mp z
      refine br_c (fun y => nm_e (nm_r (nI_1 q) ?_)) (fun y => nm_r (nI_1 q) ?_)
      · rw [if_pos ⟨z', y⟩] at hi
        exact hi
      · rw [if_neg (fun x => y x.2)] at hi
        exact hi
theorem zx_asks_l {f : Nat} (hf : f < 4) {post : Int32 → Prop} (h : post (za_sum (fun t => AS (4 * t + f)) 4)) :
    ∀ k q, q + k = 4 → wX_asks_13 post (nI f) LC LV FA BL BG AS (k + 1) (za_sum (fun t => AS (4 * t + f)) q) (nI q) := by
  intro k
  induction k with
  | zero =>
    intro q hq
    have hq' : q = 4 := by omega
    rw [hq']
    exact br_t (by decide) h
  | succ k ih =>
    intro q hq
    have e1 : (nI q * 4 + nI f).toNatClampNeg = 4 * q + f := by rw [za_4, nI_clamp (by omega)]
    refine br_f (nI_ge (b := 4) (by omega) (by omega)) ⟨by rw [za_4]; exact vp_in_nI (by omega) (by omega), ?_⟩
    rw [e1]
    exact nm_e (nm_r (nI_1 q) (ih (q + 1) (by omega)))
end
theorem i_vc0 : wpX_init (fun u => wpY_init (fun v => i_Rel 0 u v)) := by
  refine ⟨5, zx_init_l (fun LC LV FA BL BG AS hx => ⟨5, zy_init_l (fun SZ AK hy => fun t ht => ?_) 4 0 _ _ rfl (fun t ht => absurd ht (Nat.not_lt_zero _))⟩) 4 0 _ _ _ _ _ _ rfl (fun t ht => absurd ht (Nat.not_lt_zero _))⟩
  exact zr_T_1 (hx t ht) (hy t ht).1 (hy t ht).2 rfl
theorem i_vc_clear {k : Nat} {u : SX} {v : SY} (I : i_Rel k u v) (hk : k + 5 ≤ 2560) (v1 : Int32) : wpX_clear (fun r u' => wpY_clear (fun r' v' => r' = r ∧ i_Rel (k + 5) u' v') v v1) u v1 := by
  obtain ⟨LC, LV, FA, BL, BG, AS⟩ := u
  obtain ⟨SZ, AK, NM, LW, HG⟩ := v
  rcases za_tree v1 with hb | ⟨t, ht, rfl⟩
  · unfold wpX_clear
    dsimp only
    refine zx_isTree_f hb (br_t rfl ?_)
    unfold wpY_clear
    dsimp only
    exact zy_tree_f hb (br_t rfl ⟨rfl, I⟩)
  · unfold wpX_clear
    dsimp only
    refine zx_isTree_t ht (br_f (by decide) (zx_mk ht (fun BL' BG' AS' g1 g2 g3 => ?_)))
    dsimp only
    unfold wpY_clear
    dsimp only
    have e15 : 15 * nI t = nI (15 * t) := pk_mul 15 t
    have hin : vp_in (15 * nI t) 60 := by rw [e15]; exact vp_in_nI (by omega) (by omega)
    have ei : (15 * nI t).toNatClampNeg = 15 * t := by rw [e15, nI_clamp (by omega)]
    have et : (nI t).toNatClampNeg = t := nI_clamp (by omega)
    refine zy_tree_t ht (br_f (by decide) ⟨vp_in_nI ht (by omega), fun a ea => ⟨hin, fun b eb => ⟨hin, fun g eg => ⟨rfl, fun t' ht' => ?_⟩⟩⟩⟩)
    rw [et] at ea
    rw [ei] at eb eg
    subst ea eb eg
    by_cases htt : t' = t
    · subst htt
      exact zr_T_1 ⟨pk_us, pk_us, pk_us, g1⟩ pk_us pk_us pk_us
    · refine zr_T_fr (I t' ht') (pk_un htt) (fun j hj => pk_un (by omega)) (fun j hj => pk_un (by omega)) (fun j f hj hf => (g2 _ (by omega)).1) (fun j f hj hf => (g2 _ (by omega)).2) (fun f hf => g3 _ (by omega)) (pk_un htt) (fun p hp => pk_un (by omega)) (fun p hp => pk_un (by omega))
theorem i_vc_leaves {k : Nat} {u : SX} {v : SY} (I : i_Rel k u v) (hk : k + 5 ≤ 2560) (v1 : Int32) : wpX_leaves (fun r => wpY_leaves (fun r' => r' = r ∧ i_Rel (k + 5) u v) v v1) u v1 := by
  obtain ⟨LC, LV, FA, BL, BG, AS⟩ := u
  obtain ⟨SZ, AK, NM, LW, HG⟩ := v
  unfold wpX_leaves
  dsimp only
  rcases za_tree v1 with hb | ⟨t, ht, rfl⟩
  · refine zx_isTree_f hb (br_t rfl ?_)
    unfold wpY_leaves
    dsimp only
    exact zy_tree_f hb (br_t rfl ⟨rfl, I⟩)
  · obtain ⟨s, c, l, e, d, lo, hi, w, H, hX, hY⟩ := I t ht
    dsimp only at hX hY
    refine zx_isTree_t ht (br_f (by decide) ⟨vp_in_nI ht (by omega), zy_leaves ht hY.1 H.2.1 ⟨?_, I⟩⟩)
    have := zt_lb_s H
    rw [nI_clamp (by omega), hX.1, show (s + 1) / 2 = zt_lb c s from by omega]
theorem i_vc_value {k : Nat} {u : SX} {v : SY} (I : i_Rel k u v) (hk : k + 5 ≤ 2560) (v1 : Int32) (v2 : Int32) : wpX_value (fun r => wpY_value (fun r' => r' = r ∧ i_Rel (k + 5) u v) v v1 v2) u v1 v2 := by
  obtain ⟨LC, LV, FA, BL, BG, AS⟩ := u
  obtain ⟨SZ, AK, NM, LW, HG⟩ := v
  unfold wpX_value
  dsimp only
  rcases za_tree v1 with hb | ⟨t, ht, rfl⟩
  · exact zx_isLeaf_b hb (br_t rfl (zy_value_bad hb ⟨rfl, I⟩))
  · obtain ⟨s, c, l, e, d, lo, hi, w, H, hX, hY⟩ := I t ht
    dsimp only at hX hY
    have h8 := zt_lb_8 H
    rcases zt_disp H v2 with ⟨hn, hp⟩ | ⟨p, hp, hc, rfl⟩
    · exact zx_isLeaf_n ht hX.1 hn (br_t rfl (zy_value H hY ht (fun p hps hc z => absurd z (hp p hps hc)) (fun _ => ⟨rfl, I⟩)))
    · have hlt := zt_lb_lt hp hc
      refine zx_isLeaf_t ht hX.1 hlt h8 (br_f (by decide) (zx_slot ⟨vp_in_nI (by omega) (by omega), zy_value H hY ht (fun p' hp' hc' z => ⟨?_, I⟩) (fun z => absurd rfl (z p hp hc))⟩))
      rw [zt_lbI H hp' hp hc' hc z, nI_clamp (by omega), (hX.2.1 p hp hc).1]
theorem i_vc_setValue {k : Nat} {u : SX} {v : SY} (I : i_Rel k u v) (hk : k + 5 ≤ 2560) (v1 : Int32) (v2 : Int32) (v3 : Int32) : wpX_setValue (fun r u' => wpY_setValue (fun r' v' => r' = r ∧ i_Rel (k + 5) u' v') v v1 v2 v3) u v1 v2 v3 := by
  obtain ⟨LC, LV, FA, BL, BG, AS⟩ := u
  obtain ⟨SZ, AK, NM, LW, HG⟩ := v
  unfold wpX_setValue
  dsimp only
  rcases za_tree v1 with hb | ⟨t, ht, rfl⟩
  · refine zx_isLeaf_b hb (br_t rfl ?_)
    unfold wpY_setValue
    dsimp only
    exact zy_find_bad hb (br_f (by decide) ⟨rfl, I⟩)
  · obtain ⟨s, c, l, e, d, lo, hi, w, H, hX, hY⟩ := I t ht
    dsimp only at hX hY
    have h8 := zt_lb_8 H
    have h15 := H.2.1
    rcases zt_disp H v2 with ⟨hn, hp⟩ | ⟨p, hp, hc, rfl⟩
    · refine zx_isLeaf_n ht hX.1 hn (br_t rfl ?_)
      unfold wpY_setValue
      dsimp only
      exact zy_find H hY ht (fun p hps hc z => absurd z (hp p hps hc)) (fun _ => br_f (by decide) ⟨rfl, I⟩)
    · have hlt := zt_lb_lt hp hc
      refine zx_isLeaf_t ht hX.1 hlt h8 (br_f (by decide) (zx_slot ⟨vp_in_nI (by omega) (by omega), fun a ea => ?_⟩))
      rw [nI_clamp (by omega)] at ea
      subst ea
      unfold wpY_setValue
      dsimp only
      refine zy_find H hY ht (fun p' hp' hc' z => ?_) (fun z => absurd rfl (z p hp hc))
      have hpp := zt_lbI H hp' hp hc' hc z
      subst hpp
      refine br_t (nI_pos' (by omega)) ⟨zy_in ht (by omega), fun b eb => ⟨rfl, fun t' ht' => ?_⟩⟩
      rw [zy_ix ht (by omega)] at eb
      subst eb
      by_cases htt : t' = t
      · subst htt
        refine ⟨s, c, l, e, d, lo, hi, fun q => if q = p' then v3 else w q, H, ⟨hX.1, fun q hq hcq => ⟨?_, (hX.2.1 q hq hcq).2⟩, hX.2.2⟩, ⟨hY.1, fun q hq => ⟨fun hcq => ⟨((hY.2 q hq).1 hcq).1, ?_⟩, fun hcq => ⟨((hY.2 q hq).2 hcq).1, ?_⟩⟩⟩⟩
        · dsimp only
          by_cases hqp : q = p'
          · rw [if_pos hqp, hqp, pk_us]
          · rw [if_neg hqp, pk_un (fun z => hqp (zt_lb_inj hcq hc' (by omega)))]
            exact (hX.2.1 q hq hcq).1
        · dsimp only
          by_cases hqp : q = p'
          · rw [if_pos hqp, hqp, pk_us]
          · rw [if_neg hqp, pk_un (by omega)]
            exact ((hY.2 q hq).1 hcq).2
        · have hqp : q ≠ p' := fun z => hcq (z ▸ hc')
          dsimp only
          rw [pk_un (by omega)]
          exact ((hY.2 q hq).2 hcq).2
      · exact zr_T_fr (I t' ht') rfl (fun j hj => pk_un (by omega)) (fun j hj => rfl) (fun j f hj hf => rfl) (fun j f hj hf => rfl) (fun f hf => rfl) rfl (fun p hp => rfl) (fun p hp => pk_un (by omega))
theorem i_vc_asks {k : Nat} {u : SX} {v : SY} (I : i_Rel k u v) (hk : k + 5 ≤ 2560) (v1 : Int32) : wpX_asks (fun r => wpY_asks (fun r' => r' = r ∧ i_Rel (k + 5) u v) v v1) u v1 := by
  obtain ⟨LC, LV, FA, BL, BG, AS⟩ := u
  obtain ⟨SZ, AK, NM, LW, HG⟩ := v
  unfold wpX_asks
  dsimp only
  rcases za_tree v1 with hb | ⟨f, hf, rfl⟩
  · refine zx_isFeature_f hb (br_t rfl ⟨61, zy_asks_l ?_ 60 0 rfl⟩)
    by_cases h0 : v1 < 0
    · exact br_t h0 ⟨rfl, I⟩
    · exact br_f h0 (br_f (fun z => absurd (Int32.le_trans (hb.resolve_left h0) z) (by decide)) ⟨rfl, I⟩)
  · refine zx_isFeature_t hf (br_f (by decide) ⟨5, zx_asks_l hf ⟨61, zy_asks_l (br_f (nI_pos (by omega)) (br_t (nI_le (b := 3) (by omega) (by omega)) ⟨?_, I⟩)) 60 0 rfl⟩ 4 0 rfl⟩)
    exact zn_60 hf I 4 (Nat.le_refl _)
end
section
/-! leafOf, score, depth, leavesAlong, bestValue -/
section
variable {t s P : Nat} {c l e d : Nat → Nat} {lo hi : Nat → Nat → Nat} {w : Nat → Int32} {SZ AK NM LW HG LC LV FA BL BG AS : Nat → Int32}
/-- what both sides say of point P in tree t: leaf i, depth g, value x -/
def zr_P (t P : Nat) (LC LV FA BL BG AS SZ AK NM LW HG : Nat → Int32) (i g : Nat) (x : Int32) : Prop :=
  i < 8 ∧ g ≤ 7 ∧ LV (8 * t + i) = x ∧ FA (8 * t + i) = nI g ∧ (∀ post : Int32 → Prop, post (nI i) → wpX_findLeaf post (LC, LV, FA, BL, BG, AS) (nI t) (nI P)) ∧
  (∀ post : Int32 → Prop, post (nI (i + 16 * g)) → wpY_walk post (SZ, AK, NM, LW, HG) (nI t) (nI P)) ∧ (∀ post : Int32 → Prop, post x → wpY_value post (SZ, AK, NM, LW, HG) (nI t) (nI i))
theorem zr_pt1 (h : zr_T t LC LV FA BL BG AS SZ AK NM) (ht : t < 4) (hP : P < 65536) : ∃ i g x, zr_P t P LC LV FA BL BG AS SZ AK NM LW HG i g x := by
  obtain ⟨s, c, l, e, d, lo, hi, w, H, hX, hY⟩ := h
  obtain ⟨p, hp, hc, hx⟩ := zt_has H (x := za_f P) (fun f _ => za_f15 P f)
  have h8 := zt_lb_8 H
  have hlt := zt_lb_lt hp hc
  obtain ⟨x1, x2, x3⟩ := hX.2.1 p hp hc
  exact ⟨zt_lb c p, d p, w p, by omega, (zt_dep H hp).1, x1, x2, fun post h => zx_findLeaf H hX ht hP hp hc hx h, fun post h => zy_walk H hY ht hP hp hc hx h,
    fun post h => zy_value H hY ht (fun p' hp' hc' z => by rw [zt_lbI H hp' hp hc' hc z]; exact h) (fun z => absurd rfl (z p hp hc))⟩
theorem zr_pt (I : ∀ t, t < 4 → zr_T t LC LV FA BL BG AS SZ AK NM) (hP : P < 65536) : ∃ (i g : Nat → Nat) (x : Nat → Int32), ∀ t, t < 4 → zr_P t P LC LV FA BL BG AS SZ AK NM LW HG (i t) (g t) (x t) := by
  have K : ∀ t : Nat, ∃ y : Nat × Nat × Int32, t < 4 → zr_P t P LC LV FA BL BG AS SZ AK NM LW HG y.1 y.2.1 y.2.2 := fun t => by
    by_cases ht : t < 4
    · obtain ⟨i, g, x, h⟩ := zr_pt1 (LW := LW) (HG := HG) (I t ht) ht hP
      exact ⟨(i, g, x), fun _ => h⟩
    · exact ⟨(0, 0, 0), fun z => absurd z ht⟩
  obtain ⟨f, hf⟩ := Classical.axiomOfChoice K
  exact ⟨fun t => (f t).1, fun t => (f t).2.1, fun t => (f t).2.2, fun t ht => hf t ht⟩
theorem za_r16 {i g : Nat} (hi : i < 8) (hg : g ≤ 7) : nI (i + 16 * g) - nI (i + 16 * g) / 16 * 16 = nI i := by
  have := pk_rem (a := i + 16 * g) (d := 16) (by omega) (by omega) (by omega)
  rw [show (i + 16 * g) % 16 = i from by omega] at this
  exact this
theorem za_d16 {i g : Nat} (hi : i < 8) (hg : g ≤ 7) : nI (i + 16 * g) / 16 = nI g := by
  have := pk_div (a := i + 16 * g) (d := 16) (by omega) (by omega) (by omega)
  rw [show (i + 16 * g) / 16 = g from by omega] at this
  exact this
theorem zx_sum_l {i g : Nat → Nat} {x : Nat → Int32} (K : ∀ t, t < 4 → zr_P t P LC LV FA BL BG AS SZ AK NM LW HG (i t) (g t) (x t)) {post : Int32 → Prop} (h : post (za_sum x 4)) :
    ∀ k q, q + k = 4 → wX_sumOfValues_4 post (nI P) LC LV FA BL BG AS (k + 1) (za_sum x q) (nI q) := by
  intro k
  induction k with
  | zero =>
    intro q hq
    have hq' : q = 4 := by omega
    rw [hq']
    exact br_t (by decide) h
  | succ k ih =>
    intro q hq
    obtain ⟨h1, h2, h3, h4, h5, h6, h7⟩ := K q (by omega)
    refine br_f (nI_ge (b := 4) (by omega) (by omega)) (h5 _ (zx_slot ⟨vp_in_nI (by omega) (by omega), ?_⟩))
    rw [nI_clamp (by omega), h3]
    exact nm_e (nm_r (nI_1 q) (ih (q + 1) (by omega)))
theorem zy_sum_l {i g : Nat → Nat} {x : Nat → Int32} (hP : P < 65536) (K : ∀ t, t < 4 → zr_P t P LC LV FA BL BG AS SZ AK NM LW HG (i t) (g t) (x t)) {post : Int32 → Prop} (h : post (za_sum x 4)) :
    ∀ k q, q + k = 4 → wY_score_4 post (nI P) SZ AK NM LW HG (k + 1) (za_sum x q) (nI q) := by
  intro k
  induction k with
  | zero =>
    intro q hq
    have hq' : q = 4 := by omega
    rw [hq']
    exact br_t (by decide) h
  | succ k ih =>
    intro q hq
    obtain ⟨h1, h2, h3, h4, h5, h6, h7⟩ := K q (by omega)
    exact br_f (nI_ge (b := 4) (by omega) (by omega)) (zy_point_t hP (br_f (by decide) (h6 _ ⟨by decide, nm_r (za_r16 h1 h2) (h7 _ (nm_e (nm_r (nI_1 q) (ih (q + 1) (by omega)))))⟩)))
theorem zr_score (I : ∀ t, t < 4 → zr_T t LC LV FA BL BG AS SZ AK NM) (hP : P < 65536) :
    ∃ r : Int32, (∀ post : Int32 → Prop, post r → wpX_sumOfValues post (LC, LV, FA, BL, BG, AS) (nI P)) ∧ (∀ post : Int32 → Prop, post r → wpY_score post (SZ, AK, NM, LW, HG) (nI P)) := by
  obtain ⟨i, g, x, K⟩ := zr_pt (LW := LW) (HG := HG) I hP
  exact ⟨za_sum x 4, fun post h => ⟨5, zx_sum_l K h 4 0 rfl⟩, fun post h => ⟨5, zy_sum_l hP K h 4 0 rfl⟩⟩
theorem zx_dep_l {i g : Nat → Nat} {x : Nat → Int32} (K : ∀ t, t < 4 → zr_P t P LC LV FA BL BG AS SZ AK NM LW HG (i t) (g t) (x t)) {post : Int32 → Prop} (h : post (za_sum (fun t => nI (g t)) 4)) :
    ∀ k q, q + k = 4 → wX_depth_13 post (nI P) LC LV FA BL BG AS (k + 1) (za_sum (fun t => nI (g t)) q) (nI q) := by
  intro k
  induction k with
  | zero =>
    intro q hq
    have hq' : q = 4 := by omega
    rw [hq']
    exact br_t (by decide) h
  | succ k ih =>
    intro q hq
    obtain ⟨h1, h2, h3, h4, h5, h6, h7⟩ := K q (by omega)
    refine br_f (nI_ge (b := 4) (by omega) (by omega)) (h5 _ (zx_slot ⟨vp_in_nI (by omega) (by omega), ?_⟩))
    rw [nI_clamp (by omega), h4]
    exact nm_e (nm_r (nI_1 q) (ih (q + 1) (by omega)))
theorem zy_dep_l {i g : Nat → Nat} {x : Nat → Int32} (hP : P < 65536) (K : ∀ t, t < 4 → zr_P t P LC LV FA BL BG AS SZ AK NM LW HG (i t) (g t) (x t)) {post : Int32 → Prop} (h : post (za_sum (fun t => nI (g t)) 4)) :
    ∀ k q, q + k = 4 → wY_depth_4 post (nI P) SZ AK NM LW HG (k + 1) (za_sum (fun t => nI (g t)) q) (nI q) := by
  intro k
  induction k with
  | zero =>
    intro q hq
    have hq' : q = 4 := by omega
    rw [hq']
    refine br_t (by decide) ?_
    unfold wY_depth_35
    exact zy_point_t hP (br_f (by decide) h)
  | succ k ih =>
    intro q hq
    obtain ⟨h1, h2, h3, h4, h5, h6, h7⟩ := K q (by omega)
    exact br_f (nI_ge (b := 4) (by omega) (by omega)) (zy_point_t hP (br_f (by decide) (h6 _ ⟨by decide, nm_r (by rw [za_d16 h1 h2]; rfl) (nm_r (nI_1 q) (ih (q + 1) (by omega)))⟩)))
theorem zr_with {f x : Nat} (hP : P < 65536) (hf : f < 4) (hx : x ≤ 15) : ∃ m, m < 65536 ∧ (∀ post : Int32 → Prop, post (nI m) → wpX_withFeature post (nI P) (nI f) (nI x)) ∧ (∀ post : Int32 → Prop, post (nI m) → wpY_with post (SZ, AK, NM, LW, HG) (nI P) (nI f) (nI x)) := by
  obtain ⟨m, hm, em⟩ := za_with hP hf hx (((15 : Int32) <<< (nI (4 * f) &&& 31)) ^^^ (-1))
  refine ⟨m, hm, fun post h => ?_, fun post h => ?_⟩
  · have e4 : nI f * 4 = nI (4 * f) := by rw [show (4 : Int32) = nI 4 from rfl, pk_mul, Nat.mul_comm]
    intro y ey
    rw [ey, e4, em]
    exact h
  · have e4 : 4 * nI f = nI (4 * f) := pk_mul 4 f
    unfold wpY_with
    dsimp only
    rw [e4, em]
    exact h
theorem zr_along {f : Nat} (hT : zr_T t LC LV FA BL BG AS SZ AK NM) (ht : t < 4) (hP : P < 65536) (hf : f < 4) : ∀ k q a, q + k = 16 →
    ∃ r : Int32, (∀ post : Int32 → Prop, post r → wX_leavesAlong_29 post (nI t) (nI P) (nI f) LC LV FA BL BG AS (k + 1) a (nI q)) ∧ (∀ post : Int32 → Prop, post r → wY_leavesAlong_6 post (nI t) (nI P) (nI f) SZ AK NM LW HG (k + 1) a (nI q)) := by
  intro k
  induction k with
  | zero =>
    intro q a hq
    have hq' : q = 16 := by omega
    rw [hq']
    exact ⟨a, fun post h => br_t (by decide) h, fun post h => br_t (by decide) h⟩
  | succ k ih =>
    intro q a hq
    obtain ⟨m, hm, mx, my⟩ := zr_with (SZ := SZ) (AK := AK) (NM := NM) (LW := LW) (HG := HG) hP hf (x := q) (by omega)
    obtain ⟨i, g, x, h1, h2, h3, h4, h5, h6, h7⟩ := zr_pt1 (LW := LW) (HG := HG) hT ht hm
    obtain ⟨r, rx, ry⟩ := ih (q + 1) (a ||| ((1 : Int32) <<< (nI i &&& 31))) (by omega)
    refine ⟨r, fun post h => ?_, fun post h => ?_⟩
    · exact br_f (nI_nlt (a := 15) (by omega) (by omega)) (mx _ (h5 _ (nm_e (nm_r (nI_1 q) (rx post h)))))
    · refine br_f (nI_ge (b := 16) (by omega) (by omega)) (zy_tree_t ht (br_f (by decide) (zy_point_t hP (br_f (by decide) (br_f (nI_pos (by omega)) (br_f (nI_nlt (a := 3) (by omega) (by omega)) (my _ (h6 _ ⟨by decide, ?_⟩))))))))
      rw [za_r16 h1 h2]
      exact nm_e (nm_r (nI_1 q) (ry post h))
theorem zr_best {f : Nat} (I : ∀ t, t < 4 → zr_T t LC LV FA BL BG AS SZ AK NM) (hP : P < 65536) (hf : f < 4) : ∀ k q b m, q + k = 16 →
    ∃ r : Int32, (∀ post : Int32 → Prop, post r → wX_bestValue_37 post (nI P) (nI f) LC LV FA BL BG AS (k + 1) b m (nI q)) ∧ (∀ post : Int32 → Prop, post r → wY_bestValue_41 post (nI P) (nI f) SZ AK NM LW HG (k + 1) b m (nI q)) := by
  intro k
  induction k with
  | zero =>
    intro q b m hq
    have hq' : q = 16 := by omega
    rw [hq']
    exact ⟨b, fun post h => br_t (by decide) h, fun post h => br_t (by decide) h⟩
  | succ k ih =>
    intro q b m hq
    obtain ⟨o, ho, mx, my⟩ := zr_with (SZ := SZ) (AK := AK) (NM := NM) (LW := LW) (HG := HG) hP hf (x := q) (by omega)
    obtain ⟨v, vx, vy⟩ := zr_score (LW := LW) (HG := HG) I ho
    by_cases hv : v ≤ m
    · obtain ⟨r, rx, ry⟩ := ih (q + 1) b m (by omega)
      refine ⟨r, fun post h => ?_, fun post h => ?_⟩
      · exact br_f (nI_nlt (a := 15) (by omega) (by omega)) (mx _ (vx _ (br_t hv (nm_r (nI_1 q) (rx post h)))))
      · exact br_f (nI_ge (b := 16) (by omega) (by omega)) (my _ (vy _ (br_t hv (br_t hv (nm_r (nI_1 q) (ry post h))))))
    · obtain ⟨r, rx, ry⟩ := ih (q + 1) (nI q) v (by omega)
      refine ⟨r, fun post h => ?_, fun post h => ?_⟩
      · exact br_f (nI_nlt (a := 15) (by omega) (by omega)) (mx _ (vx _ (br_f hv (nm_r (nI_1 q) (rx post h)))))
      · exact br_f (nI_ge (b := 16) (by omega) (by omega)) (my _ (vy _ (br_f hv (br_f hv (nm_r (nI_1 q) (ry post h))))))
end
theorem i_vc_leafOf {k : Nat} {u : SX} {v : SY} (I : i_Rel k u v) (hk : k + 5 ≤ 2560) (v1 : Int32) (v2 : Int32) : wpX_leafOf (fun r => wpY_leafOf (fun r' => r' = r ∧ i_Rel (k + 5) u v) v v1 v2) u v1 v2 := by
  obtain ⟨LC, LV, FA, BL, BG, AS⟩ := u
  obtain ⟨SZ, AK, NM, LW, HG⟩ := v
  unfold wpX_leafOf wpY_leafOf
  dsimp only
  rcases za_tree v1 with hb | ⟨t, ht, rfl⟩
  · exact zx_isTree_f hb (br_t rfl (zy_tree_f hb (br_t rfl ⟨rfl, I⟩)))
  · rcases za_point v2 with hb | ⟨P, hP, rfl⟩
    · exact zx_isTree_t ht (br_f (by decide) (zx_isPoint_f hb (br_t rfl (zy_tree_t ht (br_f (by decide) (zy_point_f hb (br_t rfl ⟨rfl, I⟩)))))))
    · obtain ⟨i, g, x, h1, h2, h3, h4, h5, h6, h7⟩ := zr_pt1 (LW := LW) (HG := HG) (I t ht) ht hP
      exact zx_isTree_t ht (br_f (by decide) (zx_isPoint_t hP (br_f (by decide) (h5 _ (zy_tree_t ht (br_f (by decide) (zy_point_t hP (br_f (by decide) (h6 _ ⟨by decide, za_r16 h1 h2, I⟩)))))))))
theorem i_vc_score {k : Nat} {u : SX} {v : SY} (I : i_Rel k u v) (hk : k + 5 ≤ 2560) (v1 : Int32) : wpX_score (fun r => wpY_score (fun r' => r' = r ∧ i_Rel (k + 5) u v) v v1) u v1 := by
  obtain ⟨LC, LV, FA, BL, BG, AS⟩ := u
  obtain ⟨SZ, AK, NM, LW, HG⟩ := v
  unfold wpX_score
  dsimp only
  rcases za_point v1 with hb | ⟨P, hP, rfl⟩
  · exact zx_isPoint_f hb (br_t rfl ⟨1, br_f (by decide) (zy_point_f hb (br_t rfl ⟨rfl, I⟩))⟩)
  · obtain ⟨r, rx, ry⟩ := zr_score (LW := LW) (HG := HG) I hP
    exact zx_isPoint_t hP (br_f (by decide) (rx _ (ry _ ⟨rfl, I⟩)))
theorem i_vc_depth {k : Nat} {u : SX} {v : SY} (I : i_Rel k u v) (hk : k + 5 ≤ 2560) (v1 : Int32) : wpX_depth (fun r => wpY_depth (fun r' => r' = r ∧ i_Rel (k + 5) u v) v v1) u v1 := by
  obtain ⟨LC, LV, FA, BL, BG, AS⟩ := u
  obtain ⟨SZ, AK, NM, LW, HG⟩ := v
  unfold wpX_depth
  dsimp only
  rcases za_point v1 with hb | ⟨P, hP, rfl⟩
  · refine zx_isPoint_f hb (br_t rfl ⟨1, br_f (by decide) (zy_point_f hb (br_t rfl ?_))⟩)
    unfold wY_depth_35
    exact zy_point_f hb (br_t rfl ⟨rfl, I⟩)
  · obtain ⟨i, g, x, K⟩ := zr_pt (LW := LW) (HG := HG) I hP
    exact zx_isPoint_t hP (br_f (by decide) ⟨5, zx_dep_l K ⟨5, zy_dep_l hP K ⟨rfl, I⟩ 4 0 rfl⟩ 4 0 rfl⟩)
theorem i_vc_leavesAlong {k : Nat} {u : SX} {v : SY} (I : i_Rel k u v) (hk : k + 5 ≤ 2560) (v1 : Int32) (v2 : Int32) (v3 : Int32) : wpX_leavesAlong (fun r => wpY_leavesAlong (fun r' => r' = r ∧ i_Rel (k + 5) u v) v v1 v2 v3) u v1 v2 v3 := by
  obtain ⟨LC, LV, FA, BL, BG, AS⟩ := u
  obtain ⟨SZ, AK, NM, LW, HG⟩ := v
  unfold wpX_leavesAlong
  dsimp only
  rcases za_tree v1 with hb | ⟨t, ht, rfl⟩
  · exact zx_isTree_f hb (br_t rfl ⟨1, br_f (by decide) (zy_tree_f hb (br_t rfl ⟨rfl, I⟩))⟩)
  · rcases za_point v2 with hb | ⟨P, hP, rfl⟩
    · exact zx_isTree_t ht (br_f (by decide) (zx_isPoint_f hb (br_t rfl ⟨1, br_f (by decide) (zy_tree_t ht (br_f (by decide) (zy_point_f hb (br_t rfl ⟨rfl, I⟩))))⟩)))
    · rcases za_tree v3 with hb | ⟨f, hf, rfl⟩
      · refine zx_isTree_t ht (br_f (by decide) (zx_isPoint_t hP (br_f (by decide) (zx_isFeature_f hb (br_t rfl ⟨1, br_f (by decide) (zy_tree_t ht (br_f (by decide) (zy_point_t hP (br_f (by decide) ?_))))⟩)))))
        by_cases h0 : v3 < 0
        · exact br_t h0 ⟨rfl, I⟩
        · exact br_f h0 (br_t (Int32.lt_of_lt_of_le (by decide) (hb.resolve_left h0)) ⟨rfl, I⟩)
      · obtain ⟨r, rx, ry⟩ := zr_along (LW := LW) (HG := HG) (I t ht) ht hP hf 16 0 0 rfl
        exact zx_isTree_t ht (br_f (by decide) (zx_isPoint_t hP (br_f (by decide) (zx_isFeature_t hf (br_f (by decide) ⟨17, rx _ ⟨17, ry _ ⟨rfl, I⟩⟩⟩)))))
theorem i_vc_bestValue {k : Nat} {u : SX} {v : SY} (I : i_Rel k u v) (hk : k + 5 ≤ 2560) (v1 : Int32) (v2 : Int32) : wpX_bestValue (fun r => wpY_bestValue (fun r' => r' = r ∧ i_Rel (k + 5) u v) v v1 v2) u v1 v2 := by
  obtain ⟨LC, LV, FA, BL, BG, AS⟩ := u
  obtain ⟨SZ, AK, NM, LW, HG⟩ := v
  unfold wpX_bestValue wpY_bestValue
  dsimp only
  rcases za_point v1 with hb | ⟨P, hP, rfl⟩
  · exact zx_isPoint_f hb (br_t rfl (zy_point_f hb (br_t rfl ⟨rfl, I⟩)))
  · rcases za_tree v2 with hb | ⟨f, hf, rfl⟩
    · refine zx_isPoint_t hP (br_f (by decide) (zx_isFeature_f hb (br_t rfl (zy_point_t hP (br_f (by decide) ?_)))))
      by_cases h0 : v2 < 0
      · exact br_t h0 ⟨rfl, I⟩
      · exact br_f h0 (br_f (fun z => absurd (Int32.le_trans (hb.resolve_left h0) z) (by decide)) ⟨rfl, I⟩)
    · obtain ⟨o, ho, mx, my⟩ := zr_with (SZ := SZ) (AK := AK) (NM := NM) (LW := LW) (HG := HG) hP hf (x := 0) (by omega)
      obtain ⟨v, vx, vy⟩ := zr_score (LW := LW) (HG := HG) I ho
      obtain ⟨r, rx, ry⟩ := zr_best (LW := LW) (HG := HG) I hP hf 15 1 0 v rfl
      exact zx_isPoint_t hP (br_f (by decide) (zx_isFeature_t hf (br_f (by decide) (mx _ (vx _ ⟨16, rx _ (zy_point_t hP (br_f (by decide) (br_f (nI_pos (by omega)) (br_t (nI_le (b := 3) (by omega) (by omega)) (my _ (vy _ ⟨16, ry _ ⟨rfl, I⟩⟩))))))⟩)))))
end
section
/-! reachable, range -/
section
variable {t s : Nat} {c l e d : Nat → Nat} {lo hi : Nat → Nat → Nat} {w : Nat → Int32} {SZ AK NM LW HG LC LV FA BL BG AS : Nat → Int32}
theorem zy_re_bad {t a : Int32} {post : Int32 → SY → Prop} (ht : t < 0 ∨ 4 ≤ t) (h : post a (SZ, AK, NM, LW, HG)) : ∀ k q, q + k = 8 → wY_reachable_4 post t (k + 1) a (nI q) SZ AK NM LW HG := by
  intro k
  induction k with
  | zero =>
    intro q hq
    have hq' : q = 8 := by omega
    rw [hq']
    exact br_t (by decide) h
  | succ k ih =>
    intro q hq
    exact br_f (nI_ge (b := 8) (by omega) (by omega)) (zy_box_bad ht (br_t rfl (nm_r (nI_1 q) (ih (q + 1) (by omega)))))
theorem zy_re_end (H : zt_ok s c l e d lo hi) (hY : zr_Y t s c l w SZ AK NM) (ht : t < 4) {a : Int32} {post : Int32 → SY → Prop} (h : ∀ LW HG, post a (SZ, AK, NM, LW, HG)) : ∀ k q LW HG, q + k = 8 → zt_lb c s ≤ q → wY_reachable_4 post (nI t) (k + 1) a (nI q) SZ AK NM LW HG := by
  intro k
  induction k with
  | zero =>
    intro q LW HG hq hn
    have hq' : q = 8 := by omega
    rw [hq']
    exact br_t (by decide) (h LW HG)
  | succ k ih =>
    intro q LW HG hq hn
    have hno : ∀ p, p < s → c p = 4 → nI (zt_lb c p) ≠ nI q := fun p hp hc z => by
      have := zt_lb_lt hp hc
      rw [nI_eq (by omega) (by omega)] at z
      omega
    exact br_f (nI_ge (b := 8) (by omega) (by omega)) (zy_box H hY ht (fun p LW HG hp hc z => absurd z (hno p hp hc)) (fun p LW HG hp hc z => absurd z (hno p hp hc)) (fun _ => br_t rfl (nm_r (nI_1 q) (ih (q + 1) LW HG (by omega) (by omega)))))
theorem zr_re (H : zt_ok s c l e d lo hi) (hX : zr_X t s c d lo hi w LC LV FA BL BG AS) (hY : zr_Y t s c l w SZ AK NM) (ht : t < 4) : ∀ k q a, q + k = zt_lb c s →
    ∃ r : Int32, (∀ post : Int32 → Prop, post r → wX_reachable_13 post (nI t) LC LV FA BL BG AS (k + 1) a (nI q)) ∧
      (∀ post : Int32 → SY → Prop, (∀ LW HG, post r (SZ, AK, NM, LW, HG)) → ∀ LW HG, wY_reachable_4 post (nI t) (8 - q + 1) a (nI q) SZ AK NM LW HG) := by
  have h8 := zt_lb_8 H
  have et : LC (nI t).toNatClampNeg = nI (zt_lb c s) := by rw [nI_clamp (by omega)]; exact hX.1
  have it : vp_in (nI t) 4 := vp_in_nI ht (by omega)
  intro k
  induction k with
  | zero =>
    intro q a hq
    refine ⟨a, fun post h => ⟨it, br_t ?_ h⟩, fun post h LW HG => zy_re_end H hY ht h (8 - q) q LW HG (by omega) (by omega)⟩
    rw [et]; exact nI_le (by omega) (by omega)
  | succ k ih =>
    intro q a hq
    obtain ⟨p, hp, hc, hl⟩ := zt_lb_ex (c := c) s q (by omega)
    have hb := (hX.2.1 p hp hc).2.2
    rw [hl] at hb
    have hge : ¬ LC (nI t).toNatClampNeg ≤ nI q := by rw [et]; exact nI_ge (by omega) (by omega)
    have huq : ∀ p', p' < s → c p' = 4 → nI (zt_lb c p') = nI q → p' = p := fun p' hp' hc' z => zt_lbI H hp' hp hc' hc (by rw [hl]; exact z)
    have hno : ¬ ∀ p, p < s → c p = 4 → nI (zt_lb c p) ≠ nI q := fun z => z p hp hc (by rw [hl])
    by_cases hne : zt_ne lo hi p
    · obtain ⟨r, rx, ry⟩ := ih (q + 1) (a ||| ((1 : Int32) <<< (nI q &&& 31))) (by omega)
      refine ⟨r, fun post h => ⟨it, br_f hge (zx_slot (zx_hasPoint H hp (by omega) hb (fun _ => br_f (by decide) (nm_e (nm_r (nI_1 q) (rx post h)))) (fun z => absurd hne z)))⟩, fun post h LW HG => ?_⟩
      rw [show 8 - q + 1 = (8 - (q + 1) + 1) + 1 from by omega]
      exact br_f (nI_ge (b := 8) (by omega) (by omega)) (zy_box H hY ht (fun p' LW HG hp' hc' z _ _ => br_f (by decide) (nm_e (nm_r (nI_1 q) (ry post h LW HG)))) (fun p' LW HG hp' hc' z y => absurd hne (by rw [← huq p' hp' hc' z]; exact y)) (fun z => absurd z hno))
    · obtain ⟨r, rx, ry⟩ := ih (q + 1) a (by omega)
      refine ⟨r, fun post h => ⟨it, br_f hge (zx_slot (zx_hasPoint H hp (by omega) hb (fun z => absurd z hne) (fun _ => br_t rfl (nm_r (nI_1 q) (rx post h)))))⟩, fun post h LW HG => ?_⟩
      rw [show 8 - q + 1 = (8 - (q + 1) + 1) + 1 from by omega]
      exact br_f (nI_ge (b := 8) (by omega) (by omega)) (zy_box H hY ht (fun p' LW HG hp' hc' z _ y => absurd y (by rw [huq p' hp' hc' z]; exact hne)) (fun p' LW HG hp' hc' z y => br_t rfl (nm_r (nI_1 q) (ry post h LW HG))) (fun z => absurd z hno))
end
theorem i_vc_reachable {k : Nat} {u : SX} {v : SY} (I : i_Rel k u v) (hk : k + 5 ≤ 2560) (v1 : Int32) : wpX_reachable (fun r => wpY_reachable (fun r' v' => r' = r ∧ i_Rel (k + 5) u v') v v1) u v1 := by
  obtain ⟨LC, LV, FA, BL, BG, AS⟩ := u
  obtain ⟨SZ, AK, NM, LW, HG⟩ := v
  unfold wpX_reachable
  dsimp only
  rcases za_tree v1 with hb | ⟨t, ht, rfl⟩
  · exact zx_isTree_f hb (br_t rfl ⟨9, zy_re_bad hb ⟨rfl, I⟩ 8 0 rfl⟩)
  · obtain ⟨s, c, l, e, d, lo, hi, w, H, hX, hY⟩ := I t ht
    obtain ⟨r, rx, ry⟩ := zr_re H hX hY ht (zt_lb c s) 0 0 (Nat.zero_add _)
    exact zx_isTree_t ht (br_f (by decide) ⟨zt_lb c s + 1, rx _ ⟨9, ry _ (fun LW HG => ⟨rfl, I⟩) LW HG⟩⟩)
theorem za_w01 {x : Int32} (h0 : ¬ x = 0) (h1 : ¬ x = 1) : x < 0 ∨ ¬ x ≤ 1 := by
  by_cases hn : x < 0
  · exact Or.inl hn
  · obtain ⟨j, hj, rfl⟩ := nI_of hn
    refine Or.inr (fun z => ?_)
    have z' : nI j ≤ nI 1 := z
    rw [nI_leI hj (by omega)] at z'
    have hj2 : j = 0 ∨ j = 1 := by omega
    rcases hj2 with y | y
    · exact h0 (by rw [y]; rfl)
    · exact h1 (by rw [y]; rfl)
theorem i_vc_range {k : Nat} {u : SX} {v : SY} (I : i_Rel k u v) (hk : k + 5 ≤ 2560) (v1 : Int32) (v2 : Int32) (v3 : Int32) (v4 : Int32) : wpX_range (fun r => wpY_range (fun r' v' => r' = r ∧ i_Rel (k + 5) u v') v v1 v2 v3 v4) u v1 v2 v3 v4 := by
  obtain ⟨LC, LV, FA, BL, BG, AS⟩ := u
  obtain ⟨SZ, AK, NM, LW, HG⟩ := v
  unfold wpX_range wpY_range
  dsimp only
  rcases za_tree v1 with hb | ⟨t, ht, rfl⟩
  · exact zx_isLeaf_b hb (br_t rfl (zy_box_bad hb (br_t rfl ⟨rfl, I⟩)))
  · obtain ⟨s, c, l, e, d, lo, hi, w, H, hX, hY⟩ := I t ht
    dsimp only at hX hY
    have h8 := zt_lb_8 H
    rcases zt_disp H v2 with ⟨hn, hp⟩ | ⟨p, hp, hc, rfl⟩
    · exact zx_isLeaf_n ht hX.1 hn (br_t rfl (zy_box H hY ht (fun p LW HG hps hc z => absurd z (hp p hps hc)) (fun p LW HG hps hc z => absurd z (hp p hps hc)) (fun _ => br_t rfl ⟨rfl, I⟩)))
    · have hlt := zt_lb_lt hp hc
      have hno : ¬ ∀ p', p' < s → c p' = 4 → nI (zt_lb c p') ≠ nI (zt_lb c p) := fun z => z p hp hc rfl
      have hbx := (hX.2.1 p hp hc).2.2
      refine zx_isLeaf_t ht hX.1 hlt h8 (br_f (by decide) ?_)
      rcases za_tree v3 with hb | ⟨f, hf, rfl⟩
      · refine zx_isFeature_f hb (br_t rfl (zy_box H hY ht (fun p' LW HG hp' hc' z _ _ => br_f (by decide) ?_) (fun p' LW HG hp' hc' z y => br_t rfl ⟨rfl, I⟩) (fun z => absurd z hno)))
        by_cases h0 : v3 < 0
        · exact br_t h0 ⟨rfl, I⟩
        · exact br_f h0 (br_t (Int32.lt_of_lt_of_le (by decide) (hb.resolve_left h0)) ⟨rfl, I⟩)
      · refine zx_isFeature_t hf (br_f (by decide) ?_)
        have g0 : ¬ nI f < 0 := nI_pos (by omega)
        have g3 : ¬ (3 : Int32) < nI f := nI_nlt (a := 3) (by omega) (by omega)
        have inf : vp_in (nI f) 4 := vp_in_nI hf (by omega)
        have ef : (nI f).toNatClampNeg = f := nI_clamp (by omega)
        have e4 : nI (8 * t + zt_lb c p) * 4 + nI f = nI (4 * (8 * t + zt_lb c p) + f) := za_4 _ _
        have ex : (nI (4 * (8 * t + zt_lb c p) + f)).toNatClampNeg = 4 * (8 * t + zt_lb c p) + f := nI_clamp (by omega)
        have inx : vp_in (nI (4 * (8 * t + zt_lb c p) + f)) 128 := vp_in_nI (by omega) (by omega)
        by_cases w0 : v4 = 0
        · subst w0
          refine br_f (by decide) (br_t (by decide) (zx_slot (zx_hasPoint H hp (by omega) hbx (fun hne => br_f (by decide) (nm_r e4 (br_t rfl ⟨inx, ?_⟩))) (fun hne => br_t rfl ?_))))
          · refine zy_box H hY ht (fun p' LW HG hp' hc' z hbb _ => br_f (by decide) (br_f g0 (br_f g3 (br_t rfl (br_t rfl ⟨inf, ?_, I⟩))))) (fun p' LW HG hp' hc' z y => absurd hne (by rw [← zt_lbI H hp' hp hc' hc z]; exact y)) (fun z => absurd z hno)
            rw [ef, ex]
            dsimp only
            rw [(hbb f hf).1, (hbx f hf).1, zt_lbI H hp' hp hc' hc z]
          · exact zy_box H hY ht (fun p' LW HG hp' hc' z _ y => absurd y (by rw [zt_lbI H hp' hp hc' hc z]; exact hne)) (fun p' LW HG hp' hc' z y => br_t rfl ⟨rfl, I⟩) (fun z => absurd z hno)
        · by_cases w1 : v4 = 1
          · subst w1
            refine br_f (by decide) (br_t (by decide) (zx_slot (zx_hasPoint H hp (by omega) hbx (fun hne => br_f (by decide) (nm_r e4 (br_f (by decide) ⟨inx, ?_⟩))) (fun hne => br_t rfl ?_))))
            · refine zy_box H hY ht (fun p' LW HG hp' hc' z hbb _ => br_f (by decide) (br_f g0 (br_f g3 (br_f (by decide) (br_t rfl (br_f (by decide) ⟨inf, ?_, I⟩)))))) (fun p' LW HG hp' hc' z y => absurd hne (by rw [← zt_lbI H hp' hp hc' hc z]; exact y)) (fun z => absurd z hno)
              rw [ef, ex]
              dsimp only
              rw [(hbb f hf).2, (hbx f hf).2, zt_lbI H hp' hp hc' hc z]
            · exact zy_box H hY ht (fun p' LW HG hp' hc' z _ y => absurd y (by rw [zt_lbI H hp' hp hc' hc z]; exact hne)) (fun p' LW HG hp' hc' z y => br_t rfl ⟨rfl, I⟩) (fun z => absurd z hno)
          · have hY2 : wpY_range (fun r' v' => r' = -1 ∧ i_Rel (k + 5) (LC, LV, FA, BL, BG, AS) v') (SZ, AK, NM, LW, HG) (nI t) (nI (zt_lb c p)) (nI f) v4 := by
              unfold wpY_range
              dsimp only
              exact zy_box H hY ht (fun p' LW HG hp' hc' z _ _ => br_f (by decide) (br_f g0 (br_f g3 (br_f w0 (br_f w1 ⟨rfl, I⟩))))) (fun p' LW HG hp' hc' z y => br_t rfl ⟨rfl, I⟩) (fun z => absurd z hno)
            unfold wpY_range at hY2
            dsimp only at hY2
            rcases za_w01 w0 w1 with z | z
            · exact br_t z hY2
            · by_cases z0 : v4 < 0
              · exact br_t z0 hY2
              · exact br_f z0 (br_f z hY2)
end
section
/-! split -/
section
variable {t s : Nat} {c l e d : Nat → Nat} {lo hi : Nat → Nat → Nat} {w : Nat → Int32} {SZ AK NM LW HG LC LV FA BL BG AS : Nat → Int32}
theorem zx_lg {a f L : Nat} (ha : a < 32) (hf : f < 4) {post : SX → Prop} (h : ∀ BG', (∀ k, BG' k = if k = 4 * a + f ∧ nI L < BG (4 * a + f) then nI L else BG k) → post (LC, LV, FA, BL, BG', AS)) : wpX_lowerGreatest post (LC, LV, FA, BL, BG, AS) (nI a) (nI f) (nI L) := by
  have ecl : (nI (4 * a + f)).toNatClampNeg = 4 * a + f := nI_clamp (by omega)
  have hin : vp_in (nI (4 * a + f)) 128 := vp_in_nI (by omega) (by omega)
  unfold wpX_lowerGreatest
  dsimp only
  refine nm_r (za_4 a f) ⟨hin, ?_⟩
  rw [ecl]
  refine br_c (fun z => h BG (fun k => ?_)) (fun z => ⟨hin, nm_e (h _ (fun k => ?_))⟩)
  · rw [if_neg (fun y => Int32.not_lt.mpr z y.2)]
  · by_cases hk : k = 4 * a + f
    · rw [hk, pk_us, if_pos ⟨rfl, Int32.not_le.mp z⟩]
    · rw [pk_un hk, if_neg (fun y => hk y.1)]
theorem zx_rl {a f L : Nat} {y : Int32} (hy : y = nI L) (ha : a < 32) (hf : f < 4) {post : SX → Prop} (h : ∀ BL', (∀ k, BL' k = if k = 4 * a + f ∧ BL (4 * a + f) < nI L then nI L else BL k) → post (LC, LV, FA, BL', BG, AS)) : wpX_raiseLeast post (LC, LV, FA, BL, BG, AS) (nI a) (nI f) y := by
  subst hy
  have ecl : (nI (4 * a + f)).toNatClampNeg = 4 * a + f := nI_clamp (by omega)
  have hin : vp_in (nI (4 * a + f)) 128 := vp_in_nI (by omega) (by omega)
  unfold wpX_raiseLeast
  dsimp only
  refine nm_r (za_4 a f) ⟨hin, ?_⟩
  rw [ecl]
  refine br_c (fun z => h BL (fun k => ?_)) (fun z => ⟨hin, nm_e (h _ (fun k => ?_))⟩)
  · rw [if_neg (fun y => Int32.not_lt.mpr z y.2)]
  · by_cases hk : k = 4 * a + f
    · rw [hk, pk_us, if_pos ⟨rfl, Int32.not_le.mp z⟩]
    · rw [pk_un hk, if_neg (fun y => hk y.1)]
theorem zx_cLV {a b : Nat} {A B : Nat → Int32} (h : zx_sh a b A B) : ∀ k, upd B (a + 1) 0 k = if k = a + 1 then 0 else if a + 1 < k ∧ k ≤ b then A (k - 1) else A k := by
  intro k
  by_cases hk : k = a + 1
  · rw [hk, pk_us, if_pos rfl]
  · rw [pk_un hk, if_neg hk, h k]
    by_cases hk2 : a + 1 < k ∧ k ≤ b
    · rw [if_pos hk2, if_pos (by omega)]
    · rw [if_neg hk2, if_neg (by omega)]
theorem zx_cFA {a b : Nat} {A B : Nat → Int32} (hab : a + 1 ≤ b) (h : zx_sh a b A B) : ∀ k, upd (upd B a (B a + 1)) (a + 1) (upd B a (B a + 1) (a + 1) + 1) k = if k = a ∨ k = a + 1 then A a + 1 else if a + 1 < k ∧ k ≤ b then A (k - 1) else A k := by
  intro k
  have h1 : B a = A a := by rw [h a, if_neg (by omega)]
  have h2 : B (a + 1) = A a := by rw [h (a + 1), if_pos (by omega)]; rfl
  by_cases hk : k = a + 1
  · rw [hk, pk_us, pk_un (by omega), h2, if_pos (Or.inr rfl)]
  · rw [pk_un hk]
    by_cases hk0 : k = a
    · rw [hk0, pk_us, h1, if_pos (Or.inl rfl)]
    · rw [pk_un hk0, if_neg (by omega), h k]
      by_cases hk2 : a + 1 < k ∧ k ≤ b
      · rw [if_pos hk2, if_pos (by omega)]
      · rw [if_neg hk2, if_neg (by omega)]
theorem zx_cBL {a b F : Nat} {y : Int32} {A B C : Nat → Int32} (hab : a + 1 ≤ b) (hF : F < 4) (h : zx_s4 a b A B) (h1 : ∀ k, C k = if k = 4 * (a + 1) + F ∧ B (4 * (a + 1) + F) < y then y else B k) :
    ∀ j f, f < 4 → C (4 * j + f) = if j = a + 1 then (if f = F ∧ A (4 * a + f) < y then y else A (4 * a + f)) else if a + 1 < j ∧ j ≤ b then A (4 * (j - 1) + f) else A (4 * j + f) := by
  intro j f hf
  have e1 : ∀ f, f < 4 → B (4 * (a + 1) + f) = A (4 * a + f) := fun f hf => by rw [h (a + 1) f hf, if_pos (by omega)]; rfl
  rw [h1]
  by_cases hj : j = a + 1
  · rw [hj, if_pos rfl, e1 f hf, e1 F hF]
    by_cases hfF : f = F
    · rw [hfF]
      by_cases z : A (4 * a + F) < y
      · rw [if_pos ⟨rfl, z⟩, if_pos ⟨rfl, z⟩]
      · rw [if_neg (fun x => z x.2), if_neg (fun x => z x.2)]
    · rw [if_neg (fun x => hfF (by have := x.1; omega)), if_neg (fun x => hfF x.1)]
  · rw [if_neg (fun x => hj (by have := x.1; omega)), if_neg hj, h j f hf]
    by_cases hk2 : a + 1 < j ∧ j ≤ b
    · rw [if_pos hk2, if_pos (by omega)]
    · rw [if_neg hk2, if_neg (by omega)]
theorem zx_cBG {a b F : Nat} {y : Int32} {A B C : Nat → Int32} (hF : F < 4) (h : zx_s4 a b A B) (h1 : ∀ k, C k = if k = 4 * a + F ∧ y < B (4 * a + F) then y else B k) :
    ∀ j f, f < 4 → C (4 * j + f) = if j = a then (if f = F ∧ y < A (4 * a + f) then y else A (4 * a + f)) else if a < j ∧ j ≤ b then A (4 * (j - 1) + f) else A (4 * j + f) := by
  intro j f hf
  have e1 : ∀ f, f < 4 → B (4 * a + f) = A (4 * a + f) := fun f hf => by rw [h a f hf, if_neg (by omega)]
  rw [h1]
  by_cases hj : j = a
  · rw [hj, if_pos rfl, e1 f hf, e1 F hF]
    by_cases hfF : f = F
    · rw [hfF]
      by_cases z : y < A (4 * a + F)
      · rw [if_pos ⟨rfl, z⟩, if_pos ⟨rfl, z⟩]
      · rw [if_neg (fun x => z x.2), if_neg (fun x => z x.2)]
    · rw [if_neg (fun x => hfF (by have := x.1; omega)), if_neg (fun x => hfF x.1)]
  · rw [if_neg (fun x => hj (by have := x.1; omega)), if_neg hj, h j f hf]
theorem zx_split {p F L : Nat} (H : zt_ok s c l e d lo hi) (hX : zr_X t s c d lo hi w LC LV FA BL BG AS) (ht : t < 4) (hp : p < s) (hc : c p = 4) (hF : F < 4) (hL : L ≤ 15) (hs : s ≤ 13) {post : Int32 → SX → Prop}
    (h : ∀ LV' FA' BL' BG', (∀ k, LV' k = if k = 8 * t + zt_lb c p + 1 then 0 else if 8 * t + zt_lb c p + 1 < k ∧ k ≤ 8 * t + zt_lb c s then LV (k - 1) else LV k) →
      (∀ k, FA' k = if k = 8 * t + zt_lb c p ∨ k = 8 * t + zt_lb c p + 1 then FA (8 * t + zt_lb c p) + 1 else if 8 * t + zt_lb c p + 1 < k ∧ k ≤ 8 * t + zt_lb c s then FA (k - 1) else FA k) →
      (∀ j f, f < 4 → BL' (4 * j + f) = if j = 8 * t + zt_lb c p + 1 then (if f = F ∧ BL (4 * (8 * t + zt_lb c p) + f) < nI (L + 1) then nI (L + 1) else BL (4 * (8 * t + zt_lb c p) + f)) else if 8 * t + zt_lb c p + 1 < j ∧ j ≤ 8 * t + zt_lb c s then BL (4 * (j - 1) + f) else BL (4 * j + f)) →
      (∀ j f, f < 4 → BG' (4 * j + f) = if j = 8 * t + zt_lb c p then (if f = F ∧ nI L < BG (4 * (8 * t + zt_lb c p) + f) then nI L else BG (4 * (8 * t + zt_lb c p) + f)) else if 8 * t + zt_lb c p < j ∧ j ≤ 8 * t + zt_lb c s then BG (4 * (j - 1) + f) else BG (4 * j + f)) →
      post (nI (zt_lb c s + 1)) (upd LC t (nI (zt_lb c s + 1)), LV', FA', BL', BG', upd AS (4 * t + F) (AS (4 * t + F) + 1))) :
    wpX_split post (LC, LV, FA, BL, BG, AS) (nI t) (nI (zt_lb c p)) (nI F) (nI L) := by
  have hls := zt_lb_s H
  have hlt := zt_lb_lt hp hc
  have et : (nI t).toNatClampNeg = t := nI_clamp (by omega)
  have it : vp_in (nI t) 4 := vp_in_nI ht (by omega)
  have e0 : (nI (8 * t + zt_lb c p)).toNatClampNeg = 8 * t + zt_lb c p := nI_clamp (by omega)
  have e1 : (nI (8 * t + zt_lb c p + 1)).toNatClampNeg = 8 * t + zt_lb c p + 1 := nI_clamp (by omega)
  have i0 : vp_in (nI (8 * t + zt_lb c p)) 32 := vp_in_nI (by omega) (by omega)
  have i1 : vp_in (nI (8 * t + zt_lb c p + 1)) 32 := vp_in_nI (by omega) (by omega)
  have ia : vp_in (nI t * 4 + nI F) 16 := by rw [za_4]; exact vp_in_nI (by omega) (by omega)
  have ea : (nI t * 4 + nI F).toNatClampNeg = 4 * t + F := by rw [za_4, nI_clamp (by omega)]
  unfold wpX_split
  dsimp only
  refine zx_isLeaf_t ht hX.1 hlt (by omega) (br_f (by decide) (zx_isFeature_t hF (br_f (by decide) (br_f (nI_pos (by omega)) (br_t (nI_le (b := 15) hL (by omega)) ⟨it, br_f ?_ ?_⟩)))))
  · rw [et, hX.1]
    intro z
    have z' : nI (zt_lb c s) = nI 8 := z
    rw [nI_eq (by omega) (by omega)] at z'
    omega
  · refine zx_db (n := zt_lb c s) ht hX.1 hlt (by omega) (fun LV1 FA1 BL1 BG1 s1 s2 s3 s4 => ?_)
    dsimp only
    refine zx_slot (nm_r (nI_1 _) ⟨i1, ?_⟩)
    rw [e0, e1]
    refine nm_e ⟨i0, i0, nm_e ⟨i1, i1, nm_e (zx_lg (by omega) hF (fun BG2 b2 => ?_))⟩⟩
    dsimp only
    refine zx_rl (nI_1 L) (by omega) hF (fun BL2 b1 => ?_)
    dsimp only
    refine ⟨ia, ia, ?_⟩
    rw [ea, et, pk_us]
    exact nm_e ⟨it, h _ _ _ _ (zx_cLV s1) (zx_cFA (by omega) s2) (zx_cBL (by omega) hF s3 b1) (zx_cBG hF s4 b2)⟩
def zy_sh (a b : Nat) (A B : Nat → Int32) : Prop := ∀ k, B k = if a < k ∧ k < b then A (k - 2) else A k
theorem zy_sh_st {x b : Nat} {A B : Nat → Int32} (hab : x + 2 < b) (h : zy_sh (x + 2) b A B) : zy_sh (x + 1) b A (upd B (x + 2) (B x)) := by
  intro k
  by_cases hk : k = x + 2
  · rw [hk, pk_us, h x, if_neg (by omega), if_pos (by omega)]; rfl
  · rw [pk_un hk, h k]
    by_cases hk2 : x + 2 < k ∧ k < b
    · rw [if_pos hk2, if_pos (by omega)]
    · rw [if_neg hk2, if_neg (by omega)]
theorem zy_cAK {x b : Nat} {y : Int32} {A B : Nat → Int32} (h : zy_sh (x + 2) b A B) : ∀ k, upd (upd (upd B (x + 1) (-1)) (x + 2) (-1)) x y k = if k = x then y else if k = x + 1 ∨ k = x + 2 then -1 else if x + 2 < k ∧ k < b then A (k - 2) else A k := by
  intro k
  by_cases h0 : k = x
  · rw [h0, pk_us, if_pos rfl]
  · rw [pk_un h0, if_neg h0]
    by_cases h2 : k = x + 2
    · rw [h2, pk_us, if_pos (Or.inr rfl)]
    · rw [pk_un h2]
      by_cases h1 : k = x + 1
      · rw [h1, pk_us, if_pos (Or.inl rfl)]
      · rw [pk_un h1, if_neg (by omega), h k]
theorem zy_cNM {x b : Nat} {y : Int32} {A B : Nat → Int32} (h : zy_sh (x + 2) b A B) : ∀ k, upd (upd (upd B (x + 1) (B x)) (x + 2) 0) x y k = if k = x then y else if k = x + 1 then A x else if k = x + 2 then 0 else if x + 2 < k ∧ k < b then A (k - 2) else A k := by
  intro k
  have hx : B x = A x := by rw [h x, if_neg (by omega)]
  by_cases h0 : k = x
  · rw [h0, pk_us, if_pos rfl]
  · rw [pk_un h0, if_neg h0]
    by_cases h2 : k = x + 2
    · rw [h2, pk_us, if_neg (by omega), if_pos rfl]
    · rw [pk_un h2]
      by_cases h1 : k = x + 1
      · rw [h1, pk_us, if_pos rfl, hx]
      · rw [pk_un h1, if_neg h1, if_neg h2, h k]
theorem zy_sp_l {p F L : Nat} (ht : t < 4) (hS : SZ t = nI s) (hp : p < s) (hs : s ≤ 13) {post : Int32 → SY → Prop}
    (h : ∀ AK' NM', zy_sh (15 * t + p + 2) (15 * t + s + 2) AK AK' → zy_sh (15 * t + p + 2) (15 * t + s + 2) NM NM' →
      post (nI ((s + 2 + 1) / 2)) (upd SZ t (nI (s + 2)), upd (upd (upd AK' (15 * t + p + 1) (-1)) (15 * t + p + 2) (-1)) (15 * t + p) (nI F), upd (upd (upd NM' (15 * t + p + 1) (NM' (15 * t + p))) (15 * t + p + 2) 0) (15 * t + p) (nI L), LW, HG)) :
    ∀ k AK' NM', p + k < s → zy_sh (15 * t + (p + k) + 2) (15 * t + s + 2) AK AK' → zy_sh (15 * t + (p + k) + 2) (15 * t + s + 2) NM NM' → wY_split_60 post (nI t) (nI F) (nI L) (nI p) (k + 1) (nI (p + k)) SZ AK' NM' LW HG := by
  have et : (nI t).toNatClampNeg = t := nI_clamp (by omega)
  have it : vp_in (nI t) 4 := vp_in_nI ht (by omega)
  intro k
  induction k with
  | zero =>
    intro AK' NM' hk h1 h2
    have x1 : 15 * nI t + nI p + 1 = nI (15 * t + p + 1) := by rw [za_15, nI_1]
    have x2 : 15 * nI t + nI p + 2 = nI (15 * t + p + 2) := by rw [za_15, show (2 : Int32) = nI 2 from rfl, nI_add]
    have i0 : vp_in (15 * nI t + nI p) 60 := zy_in ht (by omega)
    have i1 : vp_in (15 * nI t + nI p + 1) 60 := by rw [x1]; exact vp_in_nI (by omega) (by omega)
    have i2 : vp_in (15 * nI t + nI p + 2) 60 := by rw [x2]; exact vp_in_nI (by omega) (by omega)
    have c0 : (15 * nI t + nI p).toNatClampNeg = 15 * t + p := zy_ix ht (by omega)
    have c1 : (15 * nI t + nI p + 1).toNatClampNeg = 15 * t + p + 1 := by rw [x1, nI_clamp (by omega)]
    have c2 : (15 * nI t + nI p + 2).toNatClampNeg = 15 * t + p + 2 := by rw [x2, nI_clamp (by omega)]
    refine br_t (nI_le (Nat.le_refl _) (by omega)) ⟨i1, fun a1 q1 => ⟨i0, i1, fun m1 q2 => ⟨i2, fun a2 q3 => ⟨i2, fun m2 q4 => ⟨i0, fun a3 q5 => ⟨i0, fun m3 q6 => ⟨it, it, fun z qz => ?_⟩⟩⟩⟩⟩⟩⟩
    rw [c1] at q1
    rw [c0, c1] at q2
    rw [c2] at q3 q4
    rw [c0] at q5 q6
    rw [et, hS, show (2 : Int32) = nI 2 from rfl, nI_add] at qz
    subst q1 q2 q3 q4 q5 q6 qz
    exact zy_leaves ht (s := s + 2) pk_us (by omega) (h AK' NM' h1 h2)
  | succ k ih =>
    intro AK' NM' hk h1 h2
    have x2 : 15 * nI t + nI (p + (k + 1)) + 2 = nI (15 * t + (p + (k + 1)) + 2) := by rw [za_15, show (2 : Int32) = nI 2 from rfl, nI_add]
    have i0 : vp_in (15 * nI t + nI (p + (k + 1))) 60 := zy_in ht (by omega)
    have i2 : vp_in (15 * nI t + nI (p + (k + 1)) + 2) 60 := by rw [x2]; exact vp_in_nI (by omega) (by omega)
    have c0 : (15 * nI t + nI (p + (k + 1))).toNatClampNeg = 15 * t + (p + (k + 1)) := zy_ix ht (by omega)
    have c2 : (15 * nI t + nI (p + (k + 1)) + 2).toNatClampNeg = 15 * t + (p + (k + 1)) + 2 := by rw [x2, nI_clamp (by omega)]
    refine br_f (nI_ge (by omega) (by omega)) ⟨i0, i2, fun a qa => ⟨i0, i2, fun m qm => nm_r (pk_m1 (p + k)) (ih a m (by omega) ?_ ?_)⟩⟩
    · rw [qa, c0, c2]
      exact zy_sh_st (x := 15 * t + (p + (k + 1))) (by omega) h1
    · rw [qm, c0, c2]
      exact zy_sh_st (x := 15 * t + (p + (k + 1))) (by omega) h2
theorem zy_sh_0 {a b : Nat} (hab : b ≤ a + 1) (A : Nat → Int32) : zy_sh a b A A := fun k => by rw [if_neg (by omega)]
end
end
section
theorem i_vc_split {k : Nat} {u : SX} {v : SY} (I : i_Rel k u v) (hk : k + 5 ≤ 2560) (v1 : Int32) (v2 : Int32) (v3 : Int32) (v4 : Int32) : wpX_split (fun r u' => wpY_split (fun r' v' => r' = r ∧ i_Rel (k + 5) u' v') v v1 v2 v3 v4) u v1 v2 v3 v4 := by
  obtain ⟨LC, LV, FA, BL, BG, AS⟩ := u
  obtain ⟨SZ, AK, NM, LW, HG⟩ := v
  rcases za_tree v1 with hb | ⟨t, ht, rfl⟩
  · unfold wpX_split wpY_split
    dsimp only
    exact zx_isLeaf_b hb (br_t rfl (zy_find_bad hb (br_t (by decide) ⟨rfl, I⟩)))
  · obtain ⟨s, c, l, e, d, lo, hi, w, H, hX, hY⟩ := I t ht
    dsimp only at hX hY
    have h8 := zt_lb_8 H
    have h15 := H.2.1
    have hls := zt_lb_s H
    rcases zt_disp H v2 with ⟨hn, hp⟩ | ⟨p, hp, hc, rfl⟩
    · unfold wpX_split wpY_split
      dsimp only
      exact zx_isLeaf_n ht hX.1 hn (br_t rfl (zy_find H hY ht (fun p hps hc z => absurd z (hp p hps hc)) (fun _ => br_t (by decide) ⟨rfl, I⟩)))
    · have hlt := zt_lb_lt hp hc
      have hno : ¬ ∀ p', p' < s → c p' = 4 → nI (zt_lb c p') ≠ nI (zt_lb c p) := fun z => z p hp hc rfl
      rcases za_tree v3 with hb | ⟨F, hF, rfl⟩
      · unfold wpX_split wpY_split
        dsimp only
        refine zx_isLeaf_t ht hX.1 hlt h8 (br_f (by decide) (zx_isFeature_f hb (br_t rfl (zy_find H hY ht (fun p' hp' hc' z => br_f (nI_pos (by omega)) ?_) (fun z => absurd z hno)))))
        by_cases h0 : v3 < 0
        · exact br_t h0 ⟨rfl, I⟩
        · exact br_f h0 (br_t (Int32.lt_of_lt_of_le (by decide) (hb.resolve_left h0)) ⟨rfl, I⟩)
      · have g0 : ¬ nI F < 0 := nI_pos (by omega)
        have g3 : ¬ (3 : Int32) < nI F := nI_nlt (a := 3) (by omega) (by omega)
        have it : vp_in (nI t) 4 := vp_in_nI ht (by omega)
        have et : (nI t).toNatClampNeg = t := nI_clamp (by omega)
        rcases pk_ix v4 (n := 16) (by omega) with hb | hb | ⟨L, hL, rfl⟩
        · unfold wpX_split wpY_split
          dsimp only
          exact zx_isLeaf_t ht hX.1 hlt h8 (br_f (by decide) (zx_isFeature_t hF (br_f (by decide) (br_t hb (zy_find H hY ht (fun p' hp' hc' z => br_f (nI_pos (by omega)) (br_f g0 (br_f g3 (br_t hb ⟨rfl, I⟩)))) (fun z => absurd z hno))))))
        · have hb0 : ¬ v4 < 0 := fun z => absurd (Int32.lt_of_le_of_lt hb z) (by decide)
          have hb5 : ¬ v4 ≤ 15 := fun z => absurd (Int32.le_trans hb z) (by decide)
          unfold wpX_split wpY_split
          dsimp only
          exact zx_isLeaf_t ht hX.1 hlt h8 (br_f (by decide) (zx_isFeature_t hF (br_f (by decide) (br_f hb0 (br_f hb5 (zy_find H hY ht (fun p' hp' hc' z => br_f (nI_pos (by omega)) (br_f g0 (br_f g3 (br_f hb0 (br_f hb5 ⟨rfl, I⟩))))) (fun z => absurd z hno)))))))
        · have l0 : ¬ nI L < 0 := nI_pos (by omega)
          have l15 : nI L ≤ 15 := nI_le (b := 15) (by omega) (by omega)
          by_cases hs : s = 15
          · unfold wpX_split wpY_split
            dsimp only
            refine zx_isLeaf_t ht hX.1 hlt h8 (br_f (by decide) (zx_isFeature_t hF (br_f (by decide) (br_f l0 (br_t l15 ⟨it, br_t ?_ (zy_find H hY ht (fun p' hp' hc' z => br_f (nI_pos (by omega)) (br_f g0 (br_f g3 (br_f l0 (br_t l15 ⟨it, br_f ?_ ⟨rfl, I⟩⟩))))) (fun z => absurd z hno))⟩)))))
            · rw [et, hX.1, show zt_lb c s = 8 from by omega]; rfl
            · rw [et, hY.1, hs]; decide
          · refine zx_split H hX ht hp hc hF (by omega) (by omega) (fun LV' FA' BL' BG' y2 y3 y4 y5 => ?_)
            unfold wpY_split
            dsimp only
            refine zy_find H hY ht (fun p' hp' hc' z => ?_) (fun z => absurd z hno)
            have hpp := zt_lbI H hp' hp hc' hc z
            subst hpp
            refine br_f (nI_pos (by omega)) (br_f g0 (br_f g3 (br_f l0 (br_t l15 ⟨it, br_t ?_ ⟨it, nm_r (e' := nI (s - 1)) ?_ ⟨s - 1 - p' + 1, ?_⟩⟩⟩))))
            · rw [et, hY.1]; exact nI_lt (b := 15) (by omega) (by omega)
            · rw [et, hY.1, show (1 : Int32) = nI 1 from rfl, pk_sub (by omega)]
            · rw [show s - 1 = p' + (s - 1 - p') from by omega, show p' + (s - 1 - p') - p' = s - 1 - p' from by omega]
              refine zy_sp_l (AK := AK) (NM := NM) ht hY.1 hp (by omega) (fun AK' NM' z1 z2 => ⟨congrArg nI (by omega), fun t' ht' => ?_⟩) _ AK NM (by omega) (zy_sh_0 (by omega) _) (zy_sh_0 (by omega) _)
              have q1 := zy_cAK (y := nI F) z1
              have q2 := zy_cNM (y := nI L) z2
              by_cases htt : t' = t
              · subst htt
                refine ⟨s + 2, _, _, _, _, _, _, _, zt_split H hp hc (by omega) hF (by omega), zr_X_sp H hX hp hc hF (by omega) pk_us y2 y3 y4 y5 (fun f hf => ?_), zr_Y_sp hY hp hc hF pk_us q1 q2⟩
                dsimp only
                by_cases hfF : F = f
                · rw [hfF, pk_us, if_pos rfl]
                · rw [pk_un (by omega), if_neg hfF]
              · refine zr_T_fr (I t' ht') (pk_un htt) (fun j hj => ?_) (fun j hj => ?_) (fun j f hj hf => ?_) (fun j f hj hf => ?_) (fun f hf => pk_un (by omega)) (pk_un htt) (fun q hq => ?_) (fun q hq => ?_)
                · dsimp only
                  rw [y2, if_neg (by omega), if_neg (by omega)]
                · dsimp only
                  rw [y3, if_neg (by omega), if_neg (by omega)]
                · dsimp only
                  rw [y4 _ f hf, if_neg (by omega), if_neg (by omega)]
                · dsimp only
                  rw [y5 _ f hf, if_neg (by omega), if_neg (by omega)]
                · dsimp only
                  rw [q1, if_neg (by omega), if_neg (by omega), if_neg (by omega)]
                · dsimp only
                  rw [q2, if_neg (by omega), if_neg (by omega), if_neg (by omega), if_neg (by omega)]
end

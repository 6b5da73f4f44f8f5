/-! features of a point; the point with another feature -/
def za_f (P f : Nat) : Nat := P / 2 ^ (4 * f) % 16
theorem za_f15 (P f : Nat) : za_f P f ≤ 15 := by unfold za_f; omega
theorem za_feat {P f : Nat} (hP : P < 65536) (hf : f < 4) : (nI P >>> (nI (4 * f) &&& 31)) &&& 15 = nI (za_f P f) := by
  have h1 : P / 2 ^ (4 * f) ≤ P := Nat.div_le_self _ _
  rw [pk_shrN (by omega) (nI (4 * f) &&& 31) (4 * f) (s_l (4 * f) (by omega)), pk_andN (by omega) 4 (by decide)]
  all_goals rfl
theorem za_self (x : Int32) : x = nI x.toBitVec.toNat := by
  apply Int32.toBitVec_inj.mp
  apply BitVec.eq_of_toNat_eq
  rw [pk_tn x.toBitVec.isLt]
theorem za_pw {f : Nat} (hf : f < 4) : 2 ^ (4 * f) ≤ 4096 := by
  have h : f = 0 ∨ f = 1 ∨ f = 2 ∨ f = 3 := by omega
  rcases h with h | h | h | h <;> subst h <;> decide
theorem za_with {P f x : Nat} (hP : P < 65536) (hf : f < 4) (hx : x ≤ 15) (M : Int32) : ∃ m, m < 65536 ∧ (nI P &&& M) ||| (nI x <<< (nI (4 * f) &&& 31)) = nI m := by
  have hm : x * 2 ^ (4 * f) ≤ 15 * 4096 := Nat.mul_le_mul hx (za_pw hf)
  have hb : ((nI P &&& M) ||| (nI x <<< (nI (4 * f) &&& 31))).toBitVec.toNat < 2 ^ 16 := by
    rw [pk_shlN (nI (4 * f) &&& 31) (4 * f) (s_l (4 * f) (by omega)) (by omega), Int32.toBitVec_or, Int32.toBitVec_and, BitVec.toNat_or, BitVec.toNat_and]
    refine Nat.or_lt_two_pow (Nat.lt_of_le_of_lt Nat.and_le_left (by rw [pk_tn (by omega)]; exact hP)) ?_
    rw [pk_tn (by omega)]
    omega
  exact ⟨_, hb, za_self _⟩
theorem za_tree (t : Int32) : (t < 0 ∨ 4 ≤ t) ∨ ∃ j : Nat, j < 4 ∧ t = nI j := by
  rcases pk_ix t (n := 4) (by omega) with h | h | h
  · exact Or.inl (Or.inl h)
  · exact Or.inl (Or.inr h)
  · exact Or.inr h
def za_sum (w : Nat → Int32) : Nat → Int32
  | 0 => 0
  | n + 1 => za_sum w n + w n

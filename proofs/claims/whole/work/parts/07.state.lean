/-- both sides hold the same four trees -/
def i_Rel (_ : Nat) (u : SX) (v : SY) : Prop := ∀ t, t < 4 → zr_T t u.1 u.2.1 u.2.2.1 u.2.2.2.1 u.2.2.2.2.1 u.2.2.2.2.2 v.1 v.2.1 v.2.2.1
theorem i_up {k : Nat} {u : SX} {v : SY} (h : i_Rel k u v) : i_Rel (k + 5) u v := h

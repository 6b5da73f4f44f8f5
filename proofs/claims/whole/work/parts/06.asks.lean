/-! the count of forks that ask about f, as Y goes over its cells -/
section
variable {t s : Nat} {c l e d : Nat → Nat} {lo hi : Nat → Nat → Nat} {w : Nat → Int32} {SZ AK NM : Nat → Int32}
theorem za_m1 {n : Nat} (h : n < 2 ^ 31) : nI n ≠ -1 := fun z => by
  have k := nI_pos h
  rw [z] at k
  exact k (by decide)
def zn_y (SZ AK : Nat → Int32) (f : Int32) : Nat → Int32
  | 0 => 0
  | k + 1 => if nI (k % 15) < SZ (k / 15) ∧ AK k = f then zn_y SZ AK f k + 1 else zn_y SZ AK f k
theorem zn_s {f : Nat} (H : zt_ok s c l e d lo hi) (h : zr_Y t s c l w SZ AK NM) (hf : f < 4) : ∀ j, j ≤ s → zn_y SZ AK (nI f) (15 * t + j) = zn_y SZ AK (nI f) (15 * t) + nI (zt_ct c f j) := by
  have hs := H.2.1
  intro j
  induction j with
  | zero =>
    intro _
    rw [show zt_ct c f 0 = 0 from rfl, nI_0, Int32.add_zero]
    all_goals rfl
  | succ j ih =>
    intro hj
    show (if nI ((15 * t + j) % 15) < SZ ((15 * t + j) / 15) ∧ AK (15 * t + j) = nI f then zn_y SZ AK (nI f) (15 * t + j) + 1 else zn_y SZ AK (nI f) (15 * t + j)) = zn_y SZ AK (nI f) (15 * t) + nI (zt_ct c f j + if c j = f then 1 else 0)
    rw [show (15 * t + j) % 15 = j from by omega, show (15 * t + j) / 15 = t from by omega, h.1, ih (by omega)]
    have hlt : nI j < nI s := nI_lt (by omega) (by omega)
    have hb := h.2 j (by omega)
    by_cases hc : c j = f
    · have hA : AK (15 * t + j) = nI f := by rw [(hb.2 (by omega)).1, hc]
      rw [if_pos ⟨hlt, hA⟩, if_pos hc, Int32.add_assoc, nI_1]
    · have hA : ¬ AK (15 * t + j) = nI f := by
        by_cases h4 : c j = 4
        · rw [(hb.1 h4).1]
          exact fun z => za_m1 (by omega) z.symm
        · have := zt_c4 H (p := j) (by omega) h4
          rw [(hb.2 h4).1, nI_eq (by omega) (by omega)]
          exact hc
      rw [if_neg (fun z => hA z.2), if_neg hc]
      all_goals rfl
theorem zn_r {f : Nat} (H : zt_ok s c l e d lo hi) (h : zr_Y t s c l w SZ AK NM) (hf : f < 4) : ∀ j, s + j ≤ 15 → zn_y SZ AK (nI f) (15 * t + (s + j)) = zn_y SZ AK (nI f) (15 * t) + nI (zt_ct c f s) := by
  intro j
  induction j with
  | zero => intro _; exact zn_s H h hf s (Nat.le_refl _)
  | succ j ih =>
    intro hj
    show (if nI ((15 * t + (s + j)) % 15) < SZ ((15 * t + (s + j)) / 15) ∧ AK (15 * t + (s + j)) = nI f then zn_y SZ AK (nI f) (15 * t + (s + j)) + 1 else zn_y SZ AK (nI f) (15 * t + (s + j))) = _
    rw [show (15 * t + (s + j)) % 15 = s + j from by omega, show (15 * t + (s + j)) / 15 = t from by omega, h.1, ih (by omega)]
    have hlt : ¬ nI (s + j) < nI s := nI_nlt (by omega) (by omega)
    rw [if_neg (fun z => hlt z.1)]
theorem zn_t {f : Nat} (H : zt_ok s c l e d lo hi) (h : zr_Y t s c l w SZ AK NM) (hf : f < 4) : zn_y SZ AK (nI f) (15 * (t + 1)) = zn_y SZ AK (nI f) (15 * t) + nI (zt_ct c f s) := by
  have hs := H.2.1
  have := zn_r H h hf (15 - s) (by omega)
  rwa [show 15 * t + (s + (15 - s)) = 15 * (t + 1) from by omega] at this
theorem zn_60 {f : Nat} {LC LV FA BL BG AS : Nat → Int32} (hf : f < 4) (h : ∀ t, t < 4 → zr_T t LC LV FA BL BG AS SZ AK NM) : ∀ t, t ≤ 4 → zn_y SZ AK (nI f) (15 * t) = za_sum (fun t => AS (4 * t + f)) t := by
  intro t
  induction t with
  | zero => intro _; rfl
  | succ t ih =>
    intro ht
    obtain ⟨s, c, l, e, d, lo, hi, w, H, hX, hY⟩ := h t (by omega)
    rw [zn_t H hY hf, ih (by omega)]
    show _ = za_sum (fun t => AS (4 * t + f)) t + AS (4 * t + f)
    rw [hX.2.2 f hf]
end

/-! the reference: a step, further -/
/-- a minute less for each -/
theorem dec_max {f : Row} {k : Nat} (h : 0 ≤ f k) : va_up f k (max 0 (f k - 1)) = dec1 k f := by
  unfold dec1
  by_cases z : 0 < f k
  · rw [if_pos z, show max 0 (f k - 1) = f k - 1 by omega]
  · rw [if_neg z, show max 0 (f k - 1) = f k by omega]
    exact up_self rfl
theorem dec_n {f : Row} {n : Nat} (hn : n ≤ 8) (h : ∀ i, n ≤ i → f i = 0) : it dec1 n f = it dec1 8 f := by
  funext i
  rw [dec_at, dec_at]
  by_cases z : i < n
  · by_cases y : 0 < f i
    · rw [if_pos ⟨z, y⟩, if_pos ⟨by omega, y⟩]
    · rw [if_neg (fun q => y q.2), if_neg (fun q => y q.2)]
  · rw [if_neg (fun q => z q.1), if_neg (fun q => by have := h i (by omega); omega)]

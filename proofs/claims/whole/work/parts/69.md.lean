/-! whose watches fit -/
/-- the reference's row of those that fit, among the first E -/
def RFt (u : Wd) (Q : QT) (N : NT) (s : ST) (E : Nat) : Prop := gI u 473 55 = (cn (ftE Q N s) E : Nat) ∧ ∀ x, x < E → ftE Q N s x = true → gI u 505 (cn (ftE Q N s) x) = ((100 * (x / 60) + x % 60 : Nat) : Int)
theorem cn_s {P : Nat → Bool} {n : Nat} : cn P (n + 1) = cn P n + (if P n = true then 1 else 0) := rfl
theorem cn_mono {P : Nat → Bool} {a : Nat} : ∀ b, a ≤ b → cn P a ≤ cn P b := by
  intro b
  induction b with
  | zero => intro h; rw [show a = 0 by omega]; exact Nat.le_refl _
  | succ b ih =>
    intro h
    by_cases e : a = b + 1
    · rw [e]; exact Nat.le_refl _
    · rw [cn_s]; have := ih (by omega); omega
theorem cn_lt {P : Nat → Bool} {a b : Nat} (h : a < b) (hP : P a = true) : cn P a < cn P b := by
  have := cn_mono (P := P) b (show a + 1 ≤ b by omega)
  rw [cn_s, if_pos hP] at this
  omega

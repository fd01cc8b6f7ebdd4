/-- what is owed of the functions alone -/
theorem lawOK : ∀ (L : Nat) (f : Nat → Int), L ≤ 3072 → (∀ i, okI (f i)) → lawVal L f := sorry

/-! the law's value: nothing is owed -/
theorem lawOK : ∀ (L : Nat) (f : Nat → Int), L ≤ 3072 → (∀ i, okI (f i)) → lawVal L f := lawOK9 rfl

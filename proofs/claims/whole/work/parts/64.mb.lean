/-! the reference: a step, further -/
theorem y222z {w : Wd} (H : LR w) : ∃ w', Rf (s222_31 473 0 w') (s222_7 473 0 w) ∧ FrI (fun b => b = 496) w w' ∧ ∀ i, i < 64 → gI w' 496 i = 0 := by
  obtain ⟨v, hv, i1, i2⟩ := lpR (F := fun k v => s222_7 473 k v) (I := fun k v => FrI (fun b => b = 496) w v ∧ ∀ i, i < k → gI v 496 i = 0) 64 (fun k v hk e => by
    obtain ⟨ef, e1⟩ := e
    refine ⟨pI v 496 k 0, fun o ho => e222_7 (ef.LR H) l473 _ ?_, ef.pp rfl, fun i hi => ?_⟩
    · rw [if_neg (by omega), gdi (by omega) (by omega), wrs (by omega), nn]
      exact ho
    · by_cases z : i = k
      · rw [z, gI_s]
      · rw [gI_c z]; exact e1 i (by omega)) w ⟨FrI.rf, fun i hi => absurd hi (Nat.not_lt_zero _)⟩
  exact ⟨v, fun o ho => hv _ (e222_7 (i1.LR H) l473 _ (by rw [if_pos (by omega)]; exact ho)), i1, i2⟩

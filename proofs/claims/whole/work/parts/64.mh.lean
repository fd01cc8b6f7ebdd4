/-! the reference: a step, further -/
/-- what holds behind the eighth: as it was -/
def E8 (s u : ST) : Prop := ∀ p, 8 ≤ p → uL s p = uL u p ∧ uG s p = uG u p ∧ uW s p = uW u p
theorem E8.rf {s : ST} : E8 s s := fun _ _ => ⟨rfl, rfl, rfl⟩
theorem E8.tr {a b c : ST} (h : E8 a b) (h' : E8 b c) : E8 a c := fun p hp => ⟨(h p hp).1.trans (h' p hp).1, (h p hp).2.1.trans (h' p hp).2.1, (h p hp).2.2.trans (h' p hp).2.2⟩
theorem E8.sy {a b : ST} (h : E8 a b) : E8 b a := fun p hp => ⟨(h p hp).1.symm, (h p hp).2.1.symm, (h p hp).2.2.symm⟩
theorem E8_one {Q : QT} {s : ST} {k : Nat} (hs : GS (zn Q) s) (hk : k < 8) : E8 (oneA Q k s) s := by
  intro p hp
  unfold oneA
  by_cases ha : asks Q s k = true
  · rw [if_pos ha]
    obtain ⟨a1, a2, a3, a4⟩ := asks_in ha
    obtain ⟨h1, h2, h3⟩ := whoA_ok hs a3
    refine ⟨?_, ?_, rfl⟩
    · show va_up (va_up (uL s) (whoA Q s k) _) k _ p = uL s p
      rw [up_c (by omega), up_c (by omega)]
    · show va_up (uG s) (whoA Q s k) _ p = uG s p
      rw [up_c (by omega)]
  · rw [if_neg ha]; exact ⟨rfl, rfl, rfl⟩
theorem E8_sg {Q : QT} {s : ST} (hs : GS (zn Q) s) (h8 : zn Q ≤ 8) : ∀ k, k ≤ zn Q → E8 (sg Q s k) s := by
  intro k
  induction k with
  | zero => intro _; exact E8.rf
  | succ k ih => intro hk; exact (E8_one (GS_sg hs k (by omega)) (by omega)).tr (ih (by omega))
theorem E8_end {s : ST} : E8 (endS s) s := by
  intro p hp
  refine ⟨?_, rfl, rfl⟩
  show it dec1 8 (uL s) p = uL s p
  rw [dec_at, if_neg (by omega)]
theorem E8_goN {Q : QT} {s : ST} (hs : GS (zn Q) s) (h8 : zn Q ≤ 8) : ∀ k : Nat, uT s + k ≤ 100000 → E8 (goN Q s k) s := by
  intro k
  induction k with
  | zero => intro _; exact E8.rf
  | succ k ih =>
    intro hk
    exact (E8_end.tr (E8_sg (GS_goN hs k (by omega)) h8 _ (Nat.le_refl _))).tr (ih (by omega))

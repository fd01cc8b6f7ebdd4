/-! the reference's questions: what is seen -/
def FrW (w w' : Wd) : Prop := FrI (fun b => b = 473 ∨ (489 ≤ b ∧ b ≤ 491) ∨ (493 ≤ b ∧ b ≤ 496) ∨ b = 504) w w' ∧ ∀ i, (i < 33 ∨ 36 < i) → i ≠ 43 → gI w' 473 i = gI w 473 i
theorem FrW.tr {a b c : Wd} (h : FrW a b) (h' : FrW b c) : FrW a c := ⟨h.1.tr h'.1, fun i h1 h2 => (h'.2 i h1 h2).trans (h.2 i h1 h2)⟩
theorem FrW.rf {w : Wd} : FrW w w := ⟨FrI.rf, fun _ _ _ => rfl⟩
theorem FrJ.W {w w' : Wd} (h : FrJ w w') : FrW w w' := ⟨h.1.wk (fun b hb => by unfold AMr at hb; omega), h.2⟩
theorem FrW.S {w w' : Wd} (h : FrW w w') : FrS w w' := ⟨h.1.wk (fun b hb => by unfold ZS; omega), fun i hi => h.2 i (by unfold ZF at hi; omega) (by unfold ZF at hi; omega)⟩
theorem FrW.of {A : Nat → Prop} {w w' : Wd} (f : FrI A w w') (hA : ∀ b, A b → (489 ≤ b ∧ b ≤ 491) ∨ (493 ≤ b ∧ b ≤ 496) ∨ b = 504) : FrW w w' := ⟨f.wk (fun b hb => Or.inr (hA b hb)), fun i _ _ => by rw [f.g (fun z => by have := hA _ z; omega)]⟩
/-- the reference holds what is seen -/
def RNm (w : Wd) (N : NT) : Prop := gI w 473 38 = N.1 ∧ ∀ i, i < N.1 → gI w 501 i = N.2.1 i ∧ gI w 502 i = N.2.2.1 i ∧ gI w 503 i = N.2.2.2 i
theorem RNm.S {w w' : Wd} {N : NT} (h : RNm w N) (f : FrS w w') : RNm w' N := by
  unfold RNm
  rw [f.2 38 (by unfold ZF; omega), f.1.g (by unfold ZS; omega), f.1.g (by unfold ZS; omega), f.1.g (by unfold ZS; omega)]
  exact h
/-- whether all that is seen in step n is so, of the first k -/
def sok (N : NT) (n : Int) (u : ST) : Nat → Bool
  | 0 => true
  | k + 1 => sok N n u k && (!decide (N.2.2.1 k = n) || decide (uL u (N.2.1 k) = N.2.2.2 k))
theorem sok_iff {N : NT} {n : Int} {u : ST} : ∀ k, sok N n u k = true ↔ ∀ j, j < k → N.2.2.1 j = n → uL u (N.2.1 j) = N.2.2.2 j := by
  intro k
  induction k with
  | zero => exact ⟨fun _ j hj => absurd hj (Nat.not_lt_zero _), fun _ => rfl⟩
  | succ k ih =>
    show (sok N n u k && (!decide (N.2.2.1 k = n) || decide (uL u (N.2.1 k) = N.2.2.2 k))) = true ↔ _
    rw [Bool.and_eq_true, ih]
    constructor
    · rintro ⟨h1, h2⟩ j hj hn
      by_cases e : j = k
      · subst e
        simp [hn] at h2
        exact h2
      · exact h1 j (by omega) hn
    · intro h
      refine ⟨fun j hj hn => h j (by omega) hn, ?_⟩
      by_cases e : N.2.2.1 k = n
      · simp [e, h k (by omega) e]
      · simp [e]
theorem lsN_s {N : NT} {k : Nat} : lsN N (k + 1) = max (lsN N k) (N.2.2.1 k) := rfl
theorem lsN_ub {N : NT} {n : Nat} (hg : GN n N) : ∀ k, k ≤ N.1 → (0 ≤ lsN N k ∧ lsN N k ≤ 20) ∧ ∀ i, i < k → N.2.2.1 i ≤ lsN N k := by
  intro k
  induction k with
  | zero => intro _; exact ⟨⟨Int.le_refl _, by show (0 : Int) ≤ 20; omega⟩, fun i hi => absurd hi (Nat.not_lt_zero _)⟩
  | succ k ih =>
    intro hk
    obtain ⟨h1, h2⟩ := ih (by omega)
    have h3 := (hg.2 k (by omega)).2.1
    rw [lsN_s]
    refine ⟨by omega, fun i hi => ?_⟩
    by_cases e : i = k
    · subst e; omega
    · have := h2 i (by omega); omega

/-! couples: the tables, the row -/
/-- the tables' entries agree with ours -/
theorem c8t {w : Wd} {n : Nat} {D : Nat → Nat → Int} {K : Int} (H : LR w) (hn : n ≤ 8) (hD : ∀ a b, a < n → b < n → gI w 468 (8 * a + b) = D a b) (hO : ∀ p q, p < 8 → q < 8 → -1 ≤ D p q ∧ D p q ≤ 999) (h0 : gI w 465 0 = 0) {q : Nat} (hl : (lay q).1 = 4) :
    ∃ w', Rf (s8_36 464 q 34 K ((2 ^ n : Nat) : Int) ((2 ^ n : Nat) : Int) w') (s8_36 464 q 34 K ((2 ^ n : Nat) : Int) 1 w) ∧ FrI (fun b => b = 465 ∨ b = 466) w w' ∧ (∀ i, i < 2 ^ n → gI w' 465 i = (Tn D (2 ^ n - 1)).1 i) ∧ (∀ i, 0 < i → i < 2 ^ n → gI w' 466 i = (Tn D (2 ^ n - 1)).2 i) := by
  have hN : 1 ≤ 2 ^ n ∧ 2 ^ n ≤ 256 := ⟨Nat.one_le_two_pow, Nat.pow_le_pow_right (n := 2) (by omega) hn⟩
  have hin : ∀ m i, m < 2 ^ n → m.testBit i = true → i < n := fun m i hm hi => in_lt hm hi
  generalize 2 ^ n = N at *
  obtain ⟨v, hv, e1, e2, e3⟩ := lpR (F := fun k v => s8_36 464 q 34 K (N : Int) (k + 1) v) (I := fun k v => FrI (fun b => b = 465 ∨ b = 466) w v ∧ (∀ i, i < k + 1 → gI v 465 i = (Tn D k).1 i) ∧ (∀ i, 0 < i → i < k + 1 → gI v 466 i = (Tn D k).2 i)) (N - 1) (fun k v hk e => by
    obtain ⟨e1, e2, e3⟩ := e
    have HV := e1.LR H
    have hb := Tn_b hO k (by omega)
    have hfo := fo_b (k + 1)
    have hfi := fo_in (m := k + 1) (by omega) (by omega)
    have hfn := hin _ _ (show k + 1 < N by omega) hfi
    obtain ⟨v', l1, l2, l3, l4⟩ := c10 (m := k + 1) (D := D) HV (by omega) (by omega) (fun q' hq' hb' => ⟨by rw [e1.g (by omega)]; exact hD _ _ hfn (hin _ _ (by omega) hb'), hO _ _ (by omega) hq'⟩) (fun i hi => by rw [e2 i hi]; have := hb i; omega)
    have ag : jB D (gI v 465) (k + 1) (fo (k + 1)) = jB D (Tn D k).1 (k + 1) (fo (k + 1)) := jB_ag (by omega) (by omega) hfi (fun i hi => e2 i hi) _ (Nat.le_refl _)
    have hdl := dl_lt (k + 1) (by omega) (fo (k + 1)) (by omega) hfi
    have eT : Tn D (k + 1) = jS D (k + 1) (Tn D k) := rfl
    refine ⟨v', fun o ho => e8_36 HV l464 hl l34 _ ?_, e1.tr l2, fun i hi => ?_, fun i h0 hi => ?_⟩
    · rw [if_neg (by omega), if_neg (by omega), show F10 464 ((k : Int) + 1) v = r0 v' from l1, b0_r (l2.LR HV), wrd (by omega) (by omega)]
      exact ho
    · rw [l3, jS1, eT, jS1]
      dsimp only
      rw [ag, e2 _ hdl]
      by_cases z : i = k + 1
      · rw [z, up_s, up_s]
      · rw [up_c z, up_c z]; exact e2 i (by omega)
    · rw [l4, jS2, eT, jS2]
      simp only [ag, e2 _ hdl]
      by_cases z : i = k + 1
      · rw [z, up_s, up_s]
      · rw [up_c z, up_c z]; exact e3 i h0 (by omega)) w ⟨FrI.rf, fun i hi => by
        have : i = 0 := by omega
        rw [this, h0]; rfl, fun i h1 h2 => absurd h1 (by omega)⟩
  refine ⟨v, ?_, e1, fun i hi => e2 i (by omega), fun i h0 hi => e3 i h0 (by omega)⟩
  have e : ((N - 1 : Nat) : Int) + 1 = (N : Int) := by omega
  rw [e] at hv
  exact hv
/-- whom a set's first one takes is in the set -/
theorem Tn_2 {D : Nat → Nat → Int} : ∀ k, k < 256 → ∀ i, (Tn D k).2 i = -1 ∨ ∃ q : Nat, q < 8 ∧ (Tn D k).2 i = q ∧ i.testBit q = true ∧ fo i < q := by
  intro k
  induction k with
  | zero => intro _ i; exact Or.inl rfl
  | succ k ih =>
    intro hk i
    have e : (Tn D (k + 1)).2 = va_up (Tn D k).2 (k + 1) (if (jB D (Tn D k).1 (k + 1) (fo (k + 1))).1 < (Tn D k).1 (dl (k + 1) (fo (k + 1))) then -1 else (jB D (Tn D k).1 (k + 1) (fo (k + 1))).2) := rfl
    rw [e]
    by_cases z : i = k + 1
    · rw [z, up_s]
      split
      · exact Or.inl rfl
      · exact jB_2 (D := D) (W := (Tn D k).1) (m := k + 1) (p := fo (k + 1)) _ (Nat.le_refl _)
    · rw [up_c z]; exact ih (by omega) i
theorem rr_0 {T : Row} {D : Nat → Nat → Int} {a : Nat × Row × Int × Int} (h : a.1 = 0) : rrS T D a = a := if_pos h
theorem rrN_s {T : Row} {D : Nat → Nat → Int} {m k : Nat} : rrN T D m (k + 1) = rrS T D (rrN T D m k) := rfl
theorem rrN_st {T : Row} {D : Nat → Nat → Int} {m k : Nat} (h : (rrN T D m k).1 = 0) : ∀ j, rrN T D m (k + j) = rrN T D m k := by
  intro j
  induction j with
  | zero => rfl
  | succ j ih => rw [← Nat.add_assoc, rrN_s, ih, rr_0 h]
theorem dl_le' {m p : Nat} (hm : m < 256) (hp : p < 8) : dl m p ≤ m := dl_le m hm p hp
theorem dl_in {m p i : Nat} (h : (dl m p).testBit i = true) : m.testBit i = true ∧ i ≠ p := by
  rw [dl_test] at h
  simp only [Bool.and_eq_true, decide_eq_true_eq, Bool.not_eq_true', beq_eq_false_iff_ne] at h
  exact h.2
